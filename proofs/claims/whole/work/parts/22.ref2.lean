/-! ===== the reference: what guards do; texts worked out ===== -/
def gs_falls (k w : Int32) : Int32 := if k = nI 1 then w / nI 2 + nI 4 else if k = nI 2 then nI 0 else if k = nI 3 then w / nI 2 + nI 4 else if k = nI 4 then nI 0 else if k = nI 5 then nI 2 * (w / nI 2) else w / nI 2
def gs_fights (k : Int32) : Int32 := if k = nI 2 then nI 10 else if k = nI 4 then nI 15 else nI 0
def gs_worth (k v : Int32) : Int32 := if k = nI 1 then v + nI 5 else if k = nI 2 then nI 99 - v else if k = nI 3 then nI 2 * (v + nI 5) else if k = nI 4 then nI 99 - v - nI 7 else if k = nI 5 then nI 8 else v
def gs_lives (k : Int32) : Int32 := if k = nI 2 ∨ k = nI 4 then nI 1 else nI 0
/-- looks, of a kind, a plain look and a night -/
def gs_lk (k p nt : Int32) : Int32 := if k = nI 1 then p + nI 12 else if k = nI 2 then nI 99 else if k = nI 3 then nI 2 * (p + nI 12) else if k = nI 4 then nI 99 else if k = nI 5 then p + nI 20 * (nt - nt / nI 2 * nI 2) else p
def gs_join (c x y : Int32) : Int32 :=
  if c = nI 43 then x + y else if c = nI 45 then x - y else if c = nI 42 then x * y else if c = nI 47 then (if y = 0 then nI 0 else if y = -1 then -x else x / y)
  else if c = nI 60 then (if x < y then nI 1 else nI 0) else if c = nI 62 then (if y < x then nI 1 else nI 0) else if c = nI 61 then (if x = y then nI 1 else nI 0)
  else if c = nI 38 then (if ¬ x = 0 ∧ ¬ y = 0 then nI 1 else nI 0) else (if ¬ x = 0 ∨ ¬ y = 0 then nI 1 else nI 0)
/-- the text that counts for a key, of the first n: -1 if none -/
def gs_counts (s : Nat → Int32) (key : Int32) : Nat → Int32
  | 0 => -1
  | t + 1 => if s (62 + 200 * t) = key then nI t else gs_counts s key t
def gs_op (nm : Nat → Int32) (w v : Int32) (st : List Int32) : List Int32 :=
  if w = nI 2 then (if v = nI 33 then (match st with | x :: r => (if x = 0 then nI 1 else nI 0) :: r | [] => []) else (match st with | y :: x :: r => gs_join v x y :: r | r => r))
  else (if w = 0 then v else nm v.toNatClampNeg) :: st
def gs_ev (nm : Nat → Int32) (s : Nat → Int32) (t : Nat) : Nat → List Int32
  | 0 => []
  | k + 1 => gs_op nm (s (66 + 200 * t + 2 * k)) (s (67 + 200 * t + 2 * k)) (gs_ev nm s t k)
def gs_ht (s : Nat → Int32) (t : Nat) : Nat → Nat
  | 0 => 0
  | k + 1 => if s (66 + 200 * t + 2 * k) = nI 2 then (if s (67 + 200 * t + 2 * k) = nI 33 then gs_ht s t k else gs_ht s t k - 1) else gs_ht s t k + 1
/-- the names of a key -/
def gs_nmok (key : Int32) (c : Nat) : Prop := (key = 0 ∧ (c = 119 ∨ c = 100 ∨ c = 112)) ∨ (key = nI 1 ∧ (c = 104 ∨ c = 108)) ∨ (key = nI 2 ∧ (c = 119 ∨ c = 100))
/-- a text's steps as they should be -/
def gs_tok (s : Nat → Int32) (t M : Nat) : Prop :=
  t < 14 ∧ s (64 + 200 * t) = nI M ∧ M ≤ 96 ∧ gs_ht s t M = 1 ∧
  ∀ k, k < M → (s (66 + 200 * t + 2 * k) = nI 2 → (s (67 + 200 * t + 2 * k) = nI 33 → 1 ≤ gs_ht s t k) ∧ (¬ s (67 + 200 * t + 2 * k) = nI 33 → 2 ≤ gs_ht s t k)) ∧
    (¬ s (66 + 200 * t + 2 * k) = nI 2 → ¬ s (66 + 200 * t + 2 * k) = 0 → ∃ c, s (67 + 200 * t + 2 * k) = nI c ∧ c < 128 ∧ gs_nmok (s (62 + 200 * t)) c)
theorem gs_ht_le (s : Nat → Int32) (t : Nat) : ∀ k, gs_ht s t k ≤ k
  | 0 => Nat.le_refl 0
  | k + 1 => by
    have := gs_ht_le s t k
    unfold gs_ht
    split
    · split <;> omega
    · omega
theorem gs_ev_len {nm : Nat → Int32} {s : Nat → Int32} {t M : Nat} (h : gs_tok s t M) : ∀ k, k ≤ M → (gs_ev nm s t k).length = gs_ht s t k
  | 0, _ => rfl
  | k + 1, hk => by
    have ih := gs_ev_len (nm := nm) h k (by omega)
    obtain ⟨h1, -⟩ := h.2.2.2.2 k (by omega)
    unfold gs_ev gs_ht gs_op
    by_cases c1 : s (66 + 200 * t + 2 * k) = nI 2
    · rw [if_pos c1, if_pos c1]
      obtain ⟨h2, h3⟩ := h1 c1
      by_cases c2 : s (67 + 200 * t + 2 * k) = nI 33
      · rw [if_pos c2, if_pos c2]
        have := h2 c2
        cases he : gs_ev nm s t k with
        | nil => rw [he] at ih; simp at ih; omega
        | cons x r => rw [he] at ih; simpa using ih
      · rw [if_neg c2, if_neg c2]
        have := h3 c2
        cases he : gs_ev nm s t k with
        | nil => rw [he] at ih; simp at ih; omega
        | cons x r =>
          cases r with
          | nil => rw [he] at ih; simp at ih; omega
          | cons y r => rw [he] at ih; simp at ih ⊢; omega
    · rw [if_neg c1, if_neg c1]
      simp [ih]
/-- a row holds a stack, the bottom at 0 -/
def gs_pile (f : Nat → Int32) : List Int32 → Prop
  | [] => True
  | x :: r => f r.length = x ∧ gs_pile f r
theorem gs_pile_upd (f : Nat → Int32) (v : Int32) : ∀ (l : List Int32) (k : Nat), l.length ≤ k → gs_pile f l → gs_pile (upd f k v) l
  | [], _, _, _ => trivial
  | x :: r, k, hk, h => by
    simp only [List.length_cons] at hk
    exact ⟨by rw [pk_un (by omega)]; exact h.1, gs_pile_upd f v r k (by omega) h.2⟩
section
variable {d m : Nat} {I : sx_I} {rw : Nat → Nat → Option Nat} {ln : Nat → Nat} {K : sx_K}
theorem gs_nn (k : Nat) (hk : k < 10) (w : Nat) (hw : w < 5) : 12 + 5 * k + w < 3062 := by omega
theorem c_lives8 {x : Int32} {g : Nat} (hx : x = nI g) (hg : g < 10) (hk : K (some (.int (gs_lives (I 79 (12 + 5 * g + 0))))) I (sx_run rw m ln)) : sx_C 131 (d + 2) [.ref 78, .int x] I (sx_run rw m ln) K := by
  refine sx_enter (by decide +kernel) (Nat.le_of_ble_eq_true rfl) (sx_go m131 60 rfl (fun VV CC hV hC => ?_))
  refine hC _ _ _ _ _ (c_of hx rfl (by omega) ⟨fun c1 => ⟨Or.inr rfl, sx_kk (if_pos (Or.inl c1)).symm hk⟩, fun c1 => ?_⟩)
  refine hC _ _ _ _ _ (c_of hx rfl (by omega) ⟨fun c2 => ⟨Or.inl rfl, sx_kk (if_neg ?_).symm hk⟩, fun c2 => ⟨Or.inr rfl, sx_kk (if_pos (Or.inr c2)).symm hk⟩⟩)
  rintro (h | h)
  · exact c1 h
  · exact c2 h
theorem c_falls8 {x : Int32} {g : Nat} (hx : x = nI g) (hg : g < 10) (hk : K (some (.int (gs_falls (I 79 (12 + 5 * g + 0)) (I 79 (12 + 5 * g + 2))))) I (sx_run rw m ln)) : sx_C 132 (d + 2) [.ref 78, .int x] I (sx_run rw m ln) K := by
  refine sx_enter (by decide +kernel) (Nat.le_of_ble_eq_true rfl) (sx_go m132 60 rfl (fun VV CC hV hC => ?_))
  refine hC _ _ _ _ _ (c_of hx rfl (by omega) ⟨by decide +kernel, ?_⟩)
  refine hC _ _ _ _ _ (c_of hx rfl (by omega) ?_)
  unfold gs_falls at hk
  refine ⟨fun c1 => ?_, fun c1 => ⟨fun c2 => ?_, fun c2 => ⟨fun c3 => ?_, fun c3 => ⟨fun c4 => ?_, fun c4 => ⟨fun c5 => ?_, fun c5 => ?_⟩⟩⟩⟩⟩
  · rw [if_pos c1] at hk; exact hk
  · rw [if_neg c1, if_pos c2] at hk; exact hk
  · rw [if_neg c1, if_neg c2, if_pos c3] at hk; exact hk
  · rw [if_neg c1, if_neg c2, if_neg c3, if_pos c4] at hk; exact hk
  · rw [if_neg c1, if_neg c2, if_neg c3, if_neg c4, if_pos c5] at hk; exact hk
  · rw [if_neg c1, if_neg c2, if_neg c3, if_neg c4, if_neg c5] at hk; exact hk
theorem c_fights8 {x : Int32} {g : Nat} (hx : x = nI g) (hg : g < 10) (hk : K (some (.int (gs_fights (I 79 (12 + 5 * g + 0))))) I (sx_run rw m ln)) : sx_C 133 (d + 2) [.ref 78, .int x] I (sx_run rw m ln) K := by
  refine sx_enter (by decide +kernel) (Nat.le_of_ble_eq_true rfl) (sx_go m133 60 rfl (fun VV CC hV hC => ?_))
  unfold gs_fights at hk
  refine hC _ _ _ _ _ (c_of hx rfl (by omega) ⟨fun c1 => ?_, fun c1 => ?_⟩)
  · rw [if_neg c1] at hk
    refine hC _ _ _ _ _ (c_of hx rfl (by omega) ⟨fun c2 => ?_, fun c2 => ?_⟩)
    · rw [if_neg c2] at hk; exact hk
    · rw [if_pos (show _ = _ from c2)] at hk; exact hk
  · rw [if_pos (show _ = _ from c1)] at hk; exact hk
theorem c_worth8 {x : Int32} {g : Nat} (hx : x = nI g) (hg : g < 10) (hk : K (some (.int (gs_worth (I 79 (12 + 5 * g + 0)) (I 79 (12 + 5 * g + 2))))) I (sx_run rw m ln)) : sx_C 134 (d + 2) [.ref 78, .int x] I (sx_run rw m ln) K := by
  refine sx_enter (by decide +kernel) (Nat.le_of_ble_eq_true rfl) (sx_go m134 60 rfl (fun VV CC hV hC => ?_))
  refine hC _ _ _ _ _ (c_of hx rfl (by omega) ?_)
  refine hC _ _ _ _ _ (c_of hx rfl (by omega) ?_)
  unfold gs_worth at hk
  refine ⟨fun c1 => ?_, fun c1 => ⟨fun c2 => ?_, fun c2 => ⟨fun c3 => ?_, fun c3 => ⟨fun c4 => ?_, fun c4 => ⟨fun c5 => ?_, fun c5 => ?_⟩⟩⟩⟩⟩
  · rw [if_pos c1] at hk; exact hk
  · rw [if_neg c1, if_pos c2] at hk; exact hk
  · rw [if_neg c1, if_neg c2, if_pos c3] at hk; exact hk
  · rw [if_neg c1, if_neg c2, if_neg c3, if_pos c4] at hk; exact hk
  · rw [if_neg c1, if_neg c2, if_neg c3, if_neg c4, if_pos c5] at hk; exact hk
  · rw [if_neg c1, if_neg c2, if_neg c3, if_neg c4, if_neg c5] at hk; exact hk
theorem c_joined {c x y : Int32} {G : sx_G} (hk : K (some (.int (gs_join c x y))) I G) : sx_C 191 (d + 1) [.int c, .int x, .int y] I G K := by
  refine sx_enter (by decide +kernel) (Nat.le_of_ble_eq_true rfl) (sx_go m191 60 rfl (fun VV CC hV hC => ?_))
  have dflt : (¬ c = nI 43 ∧ ¬ c = nI 45 ∧ ¬ c = nI 42 ∧ ¬ c = nI 47 ∧ ¬ c = nI 60 ∧ ¬ c = nI 62 ∧ ¬ c = nI 61 ∧ ¬ c = nI 38) → ((¬ x = 0 → K (some (.int (nI 1))) I G) ∧ (x = 0 → (y = 0 → K (some (.int (nI 0))) I G) ∧ (¬ y = 0 → K (some (.int (nI 1))) I G))) := by
    rintro ⟨h1, h2, h3, h4, h5, h6, h7, h8⟩
    unfold gs_join at hk
    rw [if_neg h1, if_neg h2, if_neg h3, if_neg h4, if_neg h5, if_neg h6, if_neg h7, if_neg h8] at hk
    refine ⟨fun c1 => ?_, fun c1 => ⟨fun c2 => ?_, fun c2 => ?_⟩⟩
    · rw [if_pos (Or.inl c1)] at hk; exact hk
    · rw [if_neg (by rintro (h | h); exact h c1; exact h c2)] at hk; exact hk
    · rw [if_pos (Or.inr c2)] at hk; exact hk
  have lit : ∀ n : Nat, c = nI n → (n < 38 ∨ 62 < n ∨ (n ≠ 43 ∧ n ≠ 45 ∧ n ≠ 42 ∧ n ≠ 47 ∧ n ≠ 60 ∧ n ≠ 62 ∧ n ≠ 61 ∧ n ≠ 38)) → n < 128 → (¬ c = nI 43 ∧ ¬ c = nI 45 ∧ ¬ c = nI 42 ∧ ¬ c = nI 47 ∧ ¬ c = nI 60 ∧ ¬ c = nI 62 ∧ ¬ c = nI 61 ∧ ¬ c = nI 38) := by
    intro n hn hor h128
    subst hn
    refine ⟨fun h => ?_, fun h => ?_, fun h => ?_, fun h => ?_, fun h => ?_, fun h => ?_, fun h => ?_, fun h => ?_⟩ <;> (have := (nI_eq (by omega) (by omega)).mp h; omega)
  refine ⟨fun c1 => ?_, fun c1 => ⟨fun c2 => dflt (lit 39 c2 (by omega) (by omega)), fun c2 => ⟨fun c3 => dflt (lit 40 c3 (by omega) (by omega)), fun c3 => ⟨fun c4 => dflt (lit 41 c4 (by omega) (by omega)), fun c4 => ⟨fun c5 => ?_, fun c5 => ⟨fun c6 => ?_, fun c6 => ⟨fun c7 => dflt (lit 44 c7 (by omega) (by omega)), fun c7 => ⟨fun c8 => ?_, fun c8 => ⟨fun c9 => dflt (lit 46 c9 (by omega) (by omega)), fun c9 => ⟨fun c10 => ?_, fun c10 => ?_⟩⟩⟩⟩⟩⟩⟩⟩⟩⟩
  · subst c1
    have e : gs_join (nI 38) x y = if ¬ x = 0 ∧ ¬ y = 0 then nI 1 else nI 0 := rfl
    rw [e] at hk
    refine ⟨fun a1 => ?_, fun a1 => ⟨fun a2 => ?_, fun a2 => ?_⟩⟩
    · rw [if_neg (fun h => h.1 a1)] at hk; exact hk
    · rw [if_neg (fun h => h.2 a2)] at hk; exact hk
    · rw [if_pos ⟨a1, a2⟩] at hk; exact hk
  · subst c5; exact hk
  · subst c6; exact hk
  · subst c8; exact hk
  · subst c10
    have e : gs_join (nI 47) x y = if y = 0 then nI 0 else if y = -1 then -x else x / y := rfl
    rw [e] at hk
    refine ⟨fun a1 => ?_, fun a1 => ?_⟩
    · rw [if_neg a1] at hk
      refine ⟨fun a2 => ⟨a1, ?_⟩, fun a2 => ?_⟩
      · rw [if_neg a2] at hk; exact hk
      · rw [if_pos (show _ = _ from a2)] at hk; exact hk
    · rw [if_pos (show _ = _ from a1)] at hk; exact hk
  · refine ⟨fun a => dflt (lit 48 a (by omega) (by omega)), fun _ => ⟨fun a => dflt (lit 49 a (by omega) (by omega)), fun _ => ⟨fun a => dflt (lit 50 a (by omega) (by omega)), fun _ => ⟨fun a => dflt (lit 51 a (by omega) (by omega)), fun _ => ⟨fun a => dflt (lit 52 a (by omega) (by omega)), fun _ => ⟨fun a => dflt (lit 53 a (by omega) (by omega)), fun _ => ⟨fun a => dflt (lit 54 a (by omega) (by omega)), fun _ => ⟨fun a => dflt (lit 55 a (by omega) (by omega)), fun _ => ⟨fun a => dflt (lit 56 a (by omega) (by omega)), fun _ => ⟨fun a => dflt (lit 57 a (by omega) (by omega)), fun _ => ⟨fun a => dflt (lit 58 a (by omega) (by omega)), fun _ => ⟨fun a => dflt (lit 59 a (by omega) (by omega)), fun _ => ⟨fun a1 => ?_, fun a1 => ⟨fun a2 => ?_, fun a2 => ⟨fun a3 => ?_, fun a3 => dflt ⟨c6, c8, c5, c10, a1, a3, a2, c1⟩⟩⟩⟩⟩⟩⟩⟩⟩⟩⟩⟩⟩⟩⟩⟩
    · subst a1
      have e : gs_join (nI 60) x y = if x < y then nI 1 else nI 0 := rfl
      rw [e] at hk
      refine ⟨fun b => ?_, fun b => ?_⟩
      · rw [if_neg (Int32.not_lt.mpr b)] at hk; exact hk
      · rw [if_pos (Int32.not_le.mp b)] at hk; exact hk
    · subst a2
      have e : gs_join (nI 61) x y = if x = y then nI 1 else nI 0 := rfl
      rw [e] at hk
      refine ⟨fun b => ?_, fun b => ?_⟩
      · rw [if_neg b] at hk; exact hk
      · rw [if_pos (show _ = _ from b)] at hk; exact hk
    · subst a3
      have e : gs_join (nI 62) x y = if y < x then nI 1 else nI 0 := rfl
      rw [e] at hk
      refine ⟨fun b => ?_, fun b => ?_⟩
      · rw [if_neg (Int32.not_lt.mpr b)] at hk; exact hk
      · rw [if_pos (Int32.not_le.mp b)] at hk; exact hk
theorem v_counts {T : Nat} {key : Int32} (hT : I 79 1 = nI T) (hT14 : T ≤ 14) (hk : K (some (.int (gs_counts (I 79) key T))) I (sx_run rw m ln)) : ∀ (r t : Nat), t + r = T → sx_V 189 (d + 2) 0 0 K 4 [(0, .ref 78), (1, .int key), (2, .int (gs_counts (I 79) key t)), (3, .int (nI t))] [] I (sx_run rw m ln) := by
  intro r
  induction r with
  | zero =>
    intro t ht
    have : t = T := by omega
    subst this
    refine sx_go m189 60 rfl (fun VV CC hV hC => ?_)
    refine ⟨1, ⟨rfl, by omega⟩, fun c1 => hk, fun c1 => ?_⟩
    exfalso; rw [hT] at c1; exact c1 (nI_le (Nat.le_refl _) (by omega))
  | succ r ih =>
    intro t ht
    have ih2 := ih (t + 1) (by omega)
    refine sx_go m189 60 rfl (fun VV CC hV hC => ?_)
    refine ⟨1, ⟨rfl, by omega⟩, fun c1 => ?_, fun c1 => ?_⟩
    · exfalso; rw [hT] at c1; exact nI_ge (show t < T by omega) (by omega) c1
    · refine hC _ _ _ _ _ (c_textAt rfl ?_)
      refine ⟨62 + 200 * t, ⟨rfl, by omega⟩, fun c2 => hV _ _ _ _ _ _ _ ?_, fun c2 => hV _ _ _ _ _ _ _ ?_⟩
      · have e : gs_counts (I 79) key (t + 1) = gs_counts (I 79) key t := if_neg c2
        rw [nI_succ, e] at ih2
        exact ih2
      · have e : gs_counts (I 79) key (t + 1) = nI t := if_pos c2
        rw [nI_succ, e] at ih2
        exact ih2
theorem c_counts {T : Nat} {key : Int32} (hT : I 79 1 = nI T) (hT14 : T ≤ 14) (hk : K (some (.int (gs_counts (I 79) key T))) I (sx_run rw m ln)) : sx_C 189 (d + 2) [.ref 78, .int key] I (sx_run rw m ln) K := by
  refine sx_enter (by decide +kernel) (Nat.le_of_ble_eq_true rfl) (sx_go m189 60 rfl (fun VV CC hV hC => ?_))
  exact hV _ _ _ _ _ _ _ (v_counts hT hT14 hk T 0 (by omega))
end
