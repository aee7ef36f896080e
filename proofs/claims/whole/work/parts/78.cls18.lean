/-! ===== the class: the reader's bytes, signs, stack ===== -/
def gy_sb (c : Nat) : Int32 := if c < 128 then nI c else nI c - nI 256
theorem gy_sb_eq : ∀ c, c < 256 → ∀ x, x < 128 → (gy_sb c = nI x ↔ c = x) := by
  intro c hc x hx
  by_cases h : c < 128
  · have : gy_sb c = nI c := if_pos h
    rw [this]; exact nI_eq (by omega) (by omega)
  · have e : gy_sb c = nI c - nI 256 := if_neg h
    have key : ∀ c, c < 256 → 128 ≤ c → nI c - nI 256 < 0 := by decide +kernel
    have hn := key c hc (by omega)
    have hx0 : ¬ nI x < 0 := nI_nlt (b := 0) (by omega) (by omega)
    rw [e]
    exact ⟨fun z => absurd (z ▸ hn) hx0, fun z => by omega⟩
theorem gy_sb97 : ∀ c, c < 256 → (gy_sb c < nI 97 ↔ ¬ (97 ≤ c ∧ c < 128)) := by decide +kernel
theorem gy_sb122 : ∀ c, c < 256 → (nI 122 < gy_sb c ↔ (122 < c ∧ c < 128)) := by decide +kernel
theorem gy_sb48 : ∀ c, c < 256 → (gy_sb c < nI 48 ↔ ¬ (48 ≤ c ∧ c < 128)) := by decide +kernel
theorem gy_sb57 : ∀ c, c < 256 → (nI 57 < gy_sb c ↔ (57 < c ∧ c < 128)) := by decide +kernel
def gy_sk (f : Nat → Int32) : List Nat → Prop
  | [] => True
  | c :: S => f S.length = nI c ∧ c < 128 ∧ gy_sk f S
def gy_cv (w v : Nat) : Int32 := if w = 0 then nI v else if w = 1 then gb_nm v else -nI v
def gy_cd (f : Nat → Int32) : List (Nat × Nat) → Prop
  | [] => True
  | (w, v) :: o => f o.length = gy_cv w v ∧ gy_cd f o
theorem gy_sk_cg {f g : Nat → Int32} : ∀ S : List Nat, (∀ i, i < S.length → g i = f i) → gy_sk f S → gy_sk g S
  | [], _, _ => trivial
  | c :: S, h, ⟨h1, h2, h3⟩ => by
    have : (c :: S).length = S.length + 1 := rfl
    exact ⟨(h _ (by omega)).trans h1, h2, gy_sk_cg S (fun i hi => h i (by omega)) h3⟩
theorem gy_cd_cg {f g : Nat → Int32} : ∀ o : List (Nat × Nat), (∀ i, i < o.length → g i = f i) → gy_cd f o → gy_cd g o
  | [], _, _ => trivial
  | (w, v) :: o, h, ⟨h1, h3⟩ => by
    have : ((w, v) :: o).length = o.length + 1 := rfl
    exact ⟨(h _ (by omega)).trans h1, gy_cd_cg o (fun i hi => h i (by omega)) h3⟩
/-- the reader's state; everything else is as in I0 -/
def gy_rd (I0 : sx_I) (key : Int32) (S : List Nat) (o : List (Nat × Nat)) (w br bg : Nat) (due : Bool) (cmp : Nat → Int32) (I : sx_I) : Prop :=
  (∀ q, (q < 46 ∨ 49 < q) → I q = I0 q) ∧ I 46 0 = key ∧ I 46 1 = nI w ∧ I 46 3 = nI o.length ∧ I 46 5 = nI S.length ∧ I 46 6 = nI br ∧ I 46 7 = nI bg ∧ I 46 8 = (if due = true then nI 1 else 0) ∧ I 49 = cmp ∧ gy_sk (I 48) S ∧ gy_cd (I 47) o
section
variable {d m : Nat} {I I0 : sx_I} {rw : Nat → Nat → Option Nat} {ln : Nat → Nat} {K : sx_K} {T : Nat → Nat} {n w br bg : Nat} {S : List Nat} {o : List (Nat × Nat)} {due : Bool} {cmp : Nat → Int32} {key : Int32}
theorem c1_sortOf {c : Nat} {x : Int32} {G : sx_G} (hx : x = gy_sb c) (hc : c < 256) (hk : K (some (.int (nI (gy_so c)))) I G) : sx_C 34 (d + 1) [.int x] I G K := by
  subst hx
  have s0 := gy_so0 (c := c)
  have s1 := gy_so1 (c := c)
  have s2 := gy_so2 (c := c)
  have s4 := gy_so4 c
  have fin : ∀ k, gy_so c = k → K (some (.int (nI k))) I G := fun k e => e ▸ hk
  refine sx_enter (by decide +kernel) (Nat.le_of_ble_eq_true rfl) (sx_go m34 60 rfl (fun VV CC hV hC => ?_))
  have d1 : ¬ gy_sb c = nI 32 → (¬ gy_sb c < nI 48 → ¬ nI 57 < gy_sb c → gy_so c = 2) ∧ ((gy_sb c < nI 48 ∨ nI 57 < gy_sb c) → (gy_sb c < nI 97 ∨ nI 122 < gy_sb c) → gy_so c = 3) := by
    intro c0
    rw [gy_sb_eq c hc 32 (by decide)] at c0
    rw [gy_sb48 c hc, gy_sb57 c hc, gy_sb97 c hc, gy_sb122 c hc]
    refine ⟨fun a b => s2.mpr (by omega), fun a b => ?_⟩
    have t0 : ¬ gy_so c = 0 := fun z => c0 (s0.mp z)
    have t1 : ¬ gy_so c = 1 := fun z => by have := s1.mp z; omega
    have t2 : ¬ gy_so c = 2 := fun z => by have := s2.mp z; omega
    omega
  refine ⟨fun (c0 : ¬ gy_sb c = nI 32) => ⟨fun (c1 : gy_sb c < nI 97) => ⟨fun c3 => fin 3 ((d1 c0).2 (Or.inl c3) (Or.inl c1)), fun c3 => ⟨fun c4 => fin 3 ((d1 c0).2 (Or.inr c4) (Or.inl c1)), fun c4 => fin 2 ((d1 c0).1 c3 c4)⟩⟩, fun (c1 : ¬ gy_sb c < nI 97) => ⟨fun (c2 : nI 122 < gy_sb c) => ⟨fun c3 => fin 3 ((d1 c0).2 (Or.inl c3) (Or.inr c2)), fun c3 => ⟨fun c4 => fin 3 ((d1 c0).2 (Or.inr c4) (Or.inr c2)), fun c4 => fin 2 ((d1 c0).1 c3 c4)⟩⟩, fun (c2 : ¬ nI 122 < gy_sb c) => fin 1 ?_⟩⟩, fun (c0 : gy_sb c = nI 32) => fin 0 ?_⟩
  · rw [gy_sb97 c hc] at c1
    rw [gy_sb122 c hc] at c2
    exact s1.mpr (by omega)
  · exact s0.mpr ((gy_sb_eq c hc 32 (by decide)).mp c0)
theorem c1_tight {c : Nat} {x : Int32} {G : sx_G} (hx : x = gy_sb c) (hc : c < 256) (hk : K (some (.int (nI (gy_tn c)))) I G) : sx_C 47 (d + 1) [.int x] I G K := by
  subst hx
  have q : ∀ b, b < 128 → (gy_sb c = nI b ↔ c = b) := fun b hb => gy_sb_eq c hc b hb
  have fin : ∀ k, gy_tn c = k → K (some (.int (nI k))) I G := fun k e => e ▸ hk
  refine sx_enter (by decide +kernel) (Nat.le_of_ble_eq_true rfl) (sx_go m47 100 rfl (fun VV CC hV hC => ?_))
  refine ⟨fun c1 => fin 2 ?_, fun c1 => ⟨fun c2 => fin 5 ?_, fun c2 => ⟨fun c3 => fin 4 ?_, fun c3 => ⟨fun c4 => fin 4 ?_, fun c4 => ⟨fun c5 => fin 5 ?_, fun c5 => ⟨fun c6 => fin 3 ?_, fun c6 => ⟨fun c7 => fin 3 ?_, fun c7 => ⟨fun c8 => fin 3 ?_, fun c8 => ⟨fun c9 => fin 1 ?_, fun c9 => fin 0 ?_⟩⟩⟩⟩⟩⟩⟩⟩⟩
  · rw [(q 38 (by decide)).mp c1]; decide
  · rw [(q 42 (by decide)).mp c2]; decide
  · rw [(q 43 (by decide)).mp c3]; decide
  · rw [(q 45 (by decide)).mp c4]; decide
  · rw [(q 47 (by decide)).mp c5]; decide
  · rw [(q 60 (by decide)).mp c6]; decide
  · rw [(q 61 (by decide)).mp c7]; decide
  · rw [(q 62 (by decide)).mp c8]; decide
  · rw [(q 124 (by decide)).mp c9]; decide
  · have e : ∀ b, b < 128 → ¬ gy_sb c = nI b → c ≠ b := fun b hb h z => h ((q b hb).mpr z)
    have := e 38 (by decide) c1
    have := e 42 (by decide) c2
    have := e 43 (by decide) c3
    have := e 45 (by decide) c4
    have := e 47 (by decide) c5
    have := e 60 (by decide) c6
    have := e 61 (by decide) c7
    have := e 62 (by decide) c8
    have := e 124 (by decide) c9
    unfold gy_tn
    rw [if_neg (by omega), if_neg (by omega), if_neg (by omega), if_neg (by omega), if_neg (by omega)]
theorem gy_rd.f46 (h : gy_rd I0 key S o w br bg due cmp I) {k : Nat} {v : Int32} (hk : k = 1 ∨ k = 6 ∨ k = 7 ∨ k = 8) {w' br' bg' : Nat} {due' : Bool} (h1 : upd (I 46) k v 1 = nI w') (h6 : upd (I 46) k v 6 = nI br') (h7 : upd (I 46) k v 7 = nI bg') (h8 : upd (I 46) k v 8 = (if due' = true then nI 1 else 0)) : gy_rd I0 key S o w' br' bg' due' cmp (sx_up I 46 (upd (I 46) k v)) := by
  obtain ⟨g0, gk, g1, g3, g5, g6, g7, g8, g9, gs, go⟩ := h
  refine ⟨fun q hq => by rw [sx_up_ne (by omega)]; exact g0 q hq, ?_, ?_, ?_, ?_, ?_, ?_, ?_, ?_, ?_, ?_⟩
  · rw [sx_up_same, pk_un (by omega)]; exact gk
  · rw [sx_up_same]; exact h1
  · rw [sx_up_same, pk_un (by omega)]; exact g3
  · rw [sx_up_same, pk_un (by omega)]; exact g5
  · rw [sx_up_same]; exact h6
  · rw [sx_up_same]; exact h7
  · rw [sx_up_same]; exact h8
  · rw [sx_up_ne (by decide)]; exact g9
  · rw [sx_up_ne (by decide)]; exact gs
  · rw [sx_up_ne (by decide)]; exact go
theorem c1_putDown {u v : Nat} {x : Int32} (h : gy_rd I0 key S o w br bg due cmp I) (hl : o.length < 96) (hx : x = gy_cv u v) (hk : ∀ J, gy_rd I0 key S ((u, v) :: o) w br bg due cmp J → K none J (sx_run rw m ln)) : sx_C 49 (d + 1) [.ref 46, .int x] I (sx_run rw m ln) K := by
  subst hx
  obtain ⟨g0, gk, g1, g3, g5, g6, g7, g8, g9, gs, go⟩ := h
  refine sx_enter (by decide +kernel) (Nat.le_of_ble_eq_true rfl) (sx_go m49 60 rfl (fun VV CC hV hC => ?_))
  refine ⟨fun (c : nI 96 ≤ I 46 3) => ?_, fun _ => ⟨o.length, ⟨g3, by omega⟩, ?_⟩⟩
  · rw [g3, nI_leI (by omega) (by omega)] at c; omega
  · have fin : ∀ J : sx_I, J = sx_up I 47 (upd (I 47) o.length (gy_cv u v)) → K none (sx_up J 46 (upd (J 46) 3 (J 46 3 + nI 1))) (sx_run rw m ln) := by
      intro J e
      have e46 : J 46 = I 46 := by rw [e]; exact sx_up_ne (by decide)
      refine hk _ ⟨fun q hq => ?_, ?_, ?_, ?_, ?_, ?_, ?_, ?_, ?_, ?_, ?_⟩
      · rw [sx_up_ne (by omega), e, sx_up_ne (by omega)]; exact g0 q hq
      · rw [sx_up_same, pk_un (by decide), e46]; exact gk
      · rw [sx_up_same, pk_un (by decide), e46]; exact g1
      · rw [sx_up_same, pk_us, e46, g3, nI_add]; rfl
      · rw [sx_up_same, pk_un (by decide), e46]; exact g5
      · rw [sx_up_same, pk_un (by decide), e46]; exact g6
      · rw [sx_up_same, pk_un (by decide), e46]; exact g7
      · rw [sx_up_same, pk_un (by decide), e46]; exact g8
      · rw [sx_up_ne (by decide), e, sx_up_ne (by decide)]; exact g9
      · rw [sx_up_ne (by decide), e, sx_up_ne (by decide)]; exact gs
      · rw [sx_up_ne (by decide), e, sx_up_same]
        exact ⟨pk_us, gy_cd_cg o (fun i hi => pk_un (by omega)) go⟩
    exact fin _ rfl
theorem c1_push {c : Nat} {x : Int32} (h : gy_rd I0 key S o w br bg due cmp I) (hl : S.length < 96) (hx : x = nI c) (hc : c < 128) (hk : ∀ J, gy_rd I0 key (c :: S) o w br bg due cmp J → K none J (sx_run rw m ln)) : sx_C 50 (d + 1) [.ref 46, .int x] I (sx_run rw m ln) K := by
  subst hx
  obtain ⟨g0, gk, g1, g3, g5, g6, g7, g8, g9, gs, go⟩ := h
  refine sx_enter (by decide +kernel) (Nat.le_of_ble_eq_true rfl) (sx_go m50 60 rfl (fun VV CC hV hC => ?_))
  refine ⟨fun (c : nI 96 ≤ I 46 5) => ?_, fun _ => ⟨S.length, ⟨g5, by omega⟩, ?_⟩⟩
  · rw [g5, nI_leI (by omega) (by omega)] at c; omega
  · have fin : ∀ J : sx_I, J = sx_up I 48 (upd (I 48) S.length (nI c)) → K none (sx_up J 46 (upd (J 46) 5 (J 46 5 + nI 1))) (sx_run rw m ln) := by
      intro J e
      have e46 : J 46 = I 46 := by rw [e]; exact sx_up_ne (by decide)
      refine hk _ ⟨fun q hq => ?_, ?_, ?_, ?_, ?_, ?_, ?_, ?_, ?_, ?_, ?_⟩
      · rw [sx_up_ne (by omega), e, sx_up_ne (by omega)]; exact g0 q hq
      · rw [sx_up_same, pk_un (by decide), e46]; exact gk
      · rw [sx_up_same, pk_un (by decide), e46]; exact g1
      · rw [sx_up_same, pk_un (by decide), e46]; exact g3
      · rw [sx_up_same, pk_us, e46, g5, nI_add]; rfl
      · rw [sx_up_same, pk_un (by decide), e46]; exact g6
      · rw [sx_up_same, pk_un (by decide), e46]; exact g7
      · rw [sx_up_same, pk_un (by decide), e46]; exact g8
      · rw [sx_up_ne (by decide), e, sx_up_ne (by decide)]; exact g9
      · rw [sx_up_ne (by decide), e, sx_up_same]
        exact ⟨pk_us, hc, gy_sk_cg S (fun i hi => pk_un (by omega)) gs⟩
      · rw [sx_up_ne (by decide), e, sx_up_ne (by decide)]; exact go
    exact fin _ rfl
end
