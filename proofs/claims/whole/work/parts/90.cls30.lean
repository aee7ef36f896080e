/-! ===== the class: text ===== -/
section
variable {VV : sx_VT} {CC : sx_CT} {K : sx_K} {cd cs : List sx_E} {n mc ms pc npc : Nat} {x : List Nat} {cv : Value} {L : sx_L} {r : List Value} {I : sx_I} {G : sx_G} {a : Nat}
theorem sx_w_dup (h : sx_symG VV CC K cd n mc ms cs L (.ref a :: .ref a :: r) I G) : sx_symG VV CC K cd (n + 1) mc ms ((.dup, pc, npc, x, cv) :: cs) L (.ref a :: r) I G := h
end
theorem sx_upR_same {R : Nat → Nat → Option Nat} {a : Nat} {f : Nat → Option Nat} : sx_upR R a f a = f := if_pos rfl
theorem sx_absr {P : (Nat → Nat → Option Nat) → Prop} {R : Nat → Nat → Option Nat} (T : Nat → Nat → Option Nat) (hQ : R = T) (h : P T) : P R := hQ ▸ h
/-- text u is put into the book of now at t -/
def gb_pt (rw : Nat → Nat → Option Nat) (t u : Nat) : Nat → Nat → Option Nat := fun c i => if c = 19 ∧ i = t then some (200 + 3 * u) else rw c i
theorem sx_mk_new {rw : Nat → Nat → Option Nat} {R : Nat → Nat → Option Nat} (u t : Nat) (hR : R = sx_upR (sx_upR (sx_mkR rw) (200 + 3 * u) (fun _ => none)) (200 + 3 * u) (fun i => if i = 3 then some (202 + 3 * u) else if i = 2 then some (201 + 3 * u) else sx_upR (sx_mkR rw) (200 + 3 * u) (fun _ => none) (200 + 3 * u) i)) :
    sx_upR R 120 (fun i => if i = t then some (200 + 3 * u) else R 120 i) = sx_mkR (gb_pt rw t u) := by
  have e120 : R 120 = sx_mkR rw 120 := by rw [hR, sx_upR_ne (by omega), sx_upR_ne (by omega)]
  have h1 : sx_upR (sx_mkR rw) 120 (fun i => if i = t then some (200 + 3 * u) else sx_mkR rw 120 i) = sx_mkR (gb_pt rw t u) := sx_mk_up_19 (fun c hc => funext fun i => if_neg (fun z => hc z.1)) (fun i => by
    unfold gb_pt
    by_cases z : i = t
    · rw [if_pos ⟨rfl, z⟩, if_pos z]
    · rw [if_neg (fun y => z y.2), if_neg z])
  rw [← h1]
  funext a k
  by_cases h : a = 120
  · subst h
    rw [sx_upR_same, sx_upR_same, e120]
  · rw [sx_upR_ne h, sx_upR_ne h, hR]
    by_cases h2 : a = 200 + 3 * u
    · subst h2
      rw [sx_upR_same, sx_upR_same]
      unfold sx_mkR
      rw [sx_blef (show 199 < 200 + 3 * u by omega)]
      show _ = bif Nat.beq k 2 then some (200 + 3 * u + 1) else bif Nat.beq k 3 then some (200 + 3 * u + 2) else none
      by_cases h3 : k = 3
      · subst h3
        rw [if_pos rfl]
        show some (202 + 3 * u) = some (200 + 3 * u + 2)
        congr 1; omega
      · rw [if_neg h3]
        by_cases h4 : k = 2
        · subst h4
          rw [if_pos rfl]
          show some (201 + 3 * u) = some (200 + 3 * u + 1)
          congr 1; omega
        · rw [if_neg h4, sx_bf.mpr h4, sx_bf.mpr h3]
          rfl
    · rw [sx_upR_ne h2, sx_upR_ne h2]
section
variable {d u : Nat} {I : sx_I} {rw : Nat → Nat → Option Nat} {ln : Nat → Nat} {K : sx_K} {T : Nat → Nat} {n : Nat}
def gb_nw (t u k M : Nat) (I J : sx_I) : Prop :=
  (∀ q, q ≠ 119 → q ≠ 27 → q < 200 + 3 * u → J q = I q) ∧ (J 119 1 = nI (t + 1) ∧ ∀ j, j ≠ 1 → J 119 j = I 119 j) ∧ J 27 = upd (I 27) k (nI t) ∧ J (200 + 3 * u) 0 = I 46 0 ∧ J (200 + 3 * u) 1 = I 46 1 ∧ ∀ i, i < M → J (201 + 3 * u) i = I 47 i
theorem c1_take {t k M : Nat} (ht : I 119 1 = nI t) (ht14 : t ≤ 14) (h3 : I 46 3 = nI M) (hM : M < 96) (hk0 : I 46 0 = nI k) (hk3 : k < 3) (hF : t = 14 → K (some (.int (-1000000003))) I (sx_run rw (3 * u) ln)) (hk : t < 14 → ∀ J, gb_nw t u k M I J → K (some (.int (nI t))) J (sx_run (gb_pt rw t u) (3 * u + 3) (gb_ln ln u M))) : sx_C 230 (d + 4) [.ref 119, .ref 46] I (sx_run rw (3 * u) ln) K := by
  refine sx_enter (by decide +kernel) (Nat.le_of_ble_eq_true rfl) (sx_go m230 100 rfl (fun VV CC hV hC => ?_))
  refine ⟨fun (c : I 119 1 < nI 14) => ?_, fun (c : ¬ I 119 1 < nI 14) => ?_⟩
  · rw [ht, nI_ltI (by omega) (by omega)] at c
    refine ⟨⟨by omega, rfl, rfl⟩, ?_⟩
    refine sx_w_dup (cs := x230_26) ?_
    refine sx_s_al (cs := x230_27) rfl ?_
    have f46 : ∀ q, q < 200 + 3 * u → (sx_up I (200 + 3 * u) (fun _ => 0)) q = I q := fun q hq => sx_up_ne (by omega)
    refine hC _ _ _ _ _ (c1_textInit (d := d) (M := M) (by rw [f46 46 (by omega)]; exact h3) hM ?_ (fun J2 i1 i3 i4 i5 => ?_))
    · rw [sx_upR_ne (by omega)]; rfl
    have q2 : ∀ q, q < 200 + 3 * u → J2 q = I q := fun q hq => by rw [i1 q hq]; exact f46 q hq
    rw [f46 46 (by omega)] at i3 i4
    refine sx_w_aast (cs := x230_31) (N := 14) rfl rfl (sx_al_t (by omega)) (sx_sh_t u) ht c ?_
    refine sx_absr (P := fun R => sx_symG VV CC K _ _ _ _ _ _ _ _ ((R, _, _) : sx_G)) (sx_mkR (gb_pt rw t u)) (sx_mk_new u t rfl) ?_
    have e46 : J2 46 0 = nI k := (congrFun (q2 46 (by omega)) 0).trans hk0
    have fin : ∀ J3 : sx_I, J3 = sx_up J2 27 (upd (J2 27) k (I 119 1)) → K (some (.int (I 119 1))) (sx_up J3 119 (upd (J3 119) 1 (J3 119 1 + nI 1))) (sx_run (gb_pt rw t u) (3 * u + 3) (gb_ln ln u M)) := by
      intro J3 e3
      have ne : ∀ q, q ≠ 27 → J3 q = J2 q := fun q hq => by rw [e3]; exact sx_up_ne hq
      have w11 : J3 119 1 = nI t := by rw [ne 119 (by decide), q2 119 (by omega)]; exact ht
      rw [ht] at e3 ⊢
      refine hk c _ ⟨fun q h1 h2 h3 => ?_, ⟨?_, fun j hj => ?_⟩, ?_, ?_, ?_, fun i hi => ?_⟩
      · rw [sx_up_ne h1, ne q h2, q2 q h3]
      · rw [sx_up_same, pk_us, w11]; exact nI_add t 1
      · rw [sx_up_same, pk_un hj, ne 119 (by decide), q2 119 (by omega)]
      · rw [sx_up_ne (by decide), e3, sx_up_same, q2 27 (by omega)]
      · rw [sx_up_ne (by omega), ne _ (by omega), i3]
      · rw [sx_up_ne (by omega), ne _ (by omega), i4]
      · rw [sx_up_ne (by omega), ne _ (by omega), i5 i hi, f46 47 (by omega)]
    exact ⟨k, ⟨e46, hk3⟩, fin _ rfl⟩
  · rw [ht, nI_ltI (by omega) (by omega)] at c
    exact hF (by omega)
def gb_new (t u k w : Nat) (o : List (Nat × Nat)) (I J : sx_I) : Prop :=
  (∀ q, q ≠ 15 → q ≠ 119 → q ≠ 27 → (q < 46 ∨ 49 < q) → q < 200 + 3 * u → J q = I q) ∧ (J 15 7 = 0 ∧ ∀ k, k ≠ 7 → J 15 k = I 15 k) ∧ (J 119 1 = nI (t + 1) ∧ ∀ k, k ≠ 1 → J 119 k = I 119 k) ∧ J 27 = upd (I 27) k (nI t) ∧ J (200 + 3 * u) 0 = nI k ∧ J (200 + 3 * u) 1 = nI w ∧ gy_cd (J (201 + 3 * u)) o
def gb_te (I J : sx_I) : Prop := (∀ q, q ≠ 15 → (q < 46 ∨ 49 < q) → J q = I q) ∧ J 15 7 = 0 ∧ ∀ k, k ≠ 7 → J 15 k = I 15 k
theorem c1_text {t : Nat} (ht : I 119 1 = nI t) (ht14 : t ≤ 14) (h7 : I 15 7 = nI n) (hT : gy_b5 T n I)
    (hkF : ∀ J b, gb_te I J → gy_read T n (upd (I 49) 0 0) = .inl b → K (some (.int (-100 - nI b))) J (sx_run rw (3 * u) ln))
    (hk14 : t = 14 → ∀ J key o w, gb_te I J → gy_read T n (upd (I 49) 0 0) = .inr (key, o, w) → K (some (.int (-1000000003))) J (sx_run rw (3 * u) ln))
    (hkT : t < 14 → ∀ J k o w, gb_new t u k w o I J → k < 3 → o.length ≤ 93 → gy_read T n (upd (I 49) 0 0) = .inr (nI k, o, w) → K (some (.int (nI t))) J (sx_run (gb_pt rw t u) (3 * u + 3) (gb_ln ln u o.length))) :
    sx_C 84 (d + 8) [.ref 15] I (sx_run rw (3 * u) ln) K := by
  have hn := hT.1
  refine sx_enter (by decide +kernel) (Nat.le_of_ble_eq_true rfl) (sx_go m84 100 rfl (fun VV CC hV hC => ?_))
  have base : ∀ J0 : sx_I, J0 = sx_up I 15 (upd (I 15) 7 (nI 0)) → gy_b5 T n J0 ∧ J0 49 = I 49 ∧ ∀ J, (∀ q, (q < 46 ∨ 49 < q) → J q = J0 q) → gb_te I J := by
    intro J0 e
    have ne : ∀ q, q ≠ 15 → J0 q = I q := fun q hq => by rw [e]; exact sx_up_ne hq
    refine ⟨⟨hn, fun i hi => by rw [ne 50 (by decide)]; exact hT.2 i hi⟩, ne 49 (by decide), fun J hJ => ⟨fun q h1 h2 => (hJ q h2).trans (ne q h1), ?_, fun k hk => ?_⟩⟩
    · rw [hJ 15 (by decide), e, sx_up_same, pk_us]; rfl
    · rw [hJ 15 (by decide), e, sx_up_same, pk_un hk]
  obtain ⟨b1, b2, b3⟩ := base _ rfl
  refine hC _ _ _ _ _ (c1_read (d := d) rfl h7 b1 (fun J b g1 g2 g3 => ?_) (fun J key o w g1 g2 g3 g4 g5 g6 g7 => ?_))
  · refine ⟨fun _ => hkF J b (b3 J g1) (by rw [← b2]; exact g2), fun z => absurd z ?_⟩
    intro z
    have : (0 : Int32) ≤ nI b := nI_le (a := 0) (by omega) (by omega)
    have z : nI b = -1000000005 := z
    rw [z] at this
    exact absurd this (by decide)
  · rw [b2] at g2
    have te := b3 J g1
    have e11 : J 119 1 = nI t := by rw [te.1 119 (by decide) (by decide)]; exact ht
    have hkey : ∃ k, key = nI k ∧ k < 3 := by
      have e := g2
      unfold gy_read at e
      by_cases ck : gy_key T (gy_bl T n 0) (gy_ke T n (gy_bl T n 0)) = -1
      · rw [if_pos ck] at e; cases e
      · rw [if_neg ck] at e
        have k3 := (gy_key3 (T := T) (gy_bl T n 0) (gy_ke T n (gy_bl T n 0))).resolve_left ck
        have ek : gy_key T (gy_bl T n 0) (gy_ke T n (gy_bl T n 0)) = key := by
          revert e
          cases gy_run n (gy_key T (gy_bl T n 0) (gy_ke T n (gy_bl T n 0))) (gy_tk T n (gy_ke T n (gy_bl T n 0))) [] [] 0 0 0 true (upd (I 49) 0 0) with
          | inl b => intro e; cases e
          | inr z => intro e; cases e; rfl
        rw [ek] at k3
        rcases k3 with y | y | y
        · exact ⟨0, y, by omega⟩
        · exact ⟨1, y, by omega⟩
        · exact ⟨2, y, by omega⟩
    obtain ⟨k, rfl, hk3⟩ := hkey
    refine ⟨fun z => absurd rfl z, fun _ => ?_⟩
    refine hC _ _ _ _ _ (c1_take (d := d + 3) (M := o.length) e11 ht14 g5 (by omega) g3 hk3 (fun h => hk14 h J (nI k) o w te g2) (fun h J2 nw => hkT h J2 k o w ?_ hk3 g6 g2))
    obtain ⟨n1, n2, n3, n4, n5, n6⟩ := nw
    refine ⟨fun q h1 h2 h3 h4 h5 => (n1 q h2 h3 h5).trans (te.1 q h1 h4), ⟨?_, fun j hj => ?_⟩, ⟨n2.1, fun j hj => ?_⟩, ?_, n4.trans g3, n5.trans g4, gy_cd_cg o n6 g7⟩
    · rw [n1 15 (by decide) (by decide) (by omega)]; exact te.2.1
    · rw [n1 15 (by decide) (by decide) (by omega)]; exact te.2.2 j hj
    · rw [n2.2 j hj, te.1 119 (by decide) (by decide)]
    · rw [n3, te.1 27 (by decide) (by decide)]
end
