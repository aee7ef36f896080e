/-! ===== the reference: letters, digits, signs, steps ===== -/
def gy_bt (T : Nat → Nat) (n : Nat) (I : sx_I) : Prop := I 78 14 = nI n ∧ n ≤ 96 ∧ ∀ i, i < n → I 91 i = nI (T i) ∧ T i < 256
section
variable {d m : Nat} {I : sx_I} {rw : Nat → Nat → Option Nat} {ln : Nat → Nat} {K : sx_K} {T : Nat → Nat} {n : Nat}
theorem gy_in {c a b : Nat} (hc : c < 2 ^ 31) (ha : a < 2 ^ 31) (hb : b < 2 ^ 31) : gs_in (nI c) (nI a) (nI b) = if a ≤ c ∧ c ≤ b then nI 1 else nI 0 := by
  have e1 := nI_leI ha hc
  have e2 := nI_leI hc hb
  by_cases c : a ≤ c ∧ c ≤ b
  · rw [if_pos c]; exact if_pos ⟨e1.mpr c.1, e2.mpr c.2⟩
  · rw [if_neg c]; exact if_neg (fun h => c ⟨e1.mp h.1, e2.mp h.2⟩)
theorem c_isLetter {i : Nat} {x : Int32} (hT : gy_bt T n I) (hx : x = nI i) (hi : i ≤ 96) (hk : K (some (.int (if i < n ∧ gy_so (T i) = 1 then nI 1 else nI 0))) I (sx_run rw m ln)) : sx_C 172 (d + 2) [.ref 78, .int x] I (sx_run rw m ln) K := by
  subst hx
  obtain ⟨h1, h2, h3⟩ := hT
  refine sx_enter (by decide +kernel) (Nat.le_of_ble_eq_true rfl) (sx_go m172 40 rfl (fun VV CC hV hC => ?_))
  refine ⟨fun (c1 : I 78 14 ≤ nI i) => ?_, fun (c1 : ¬ I 78 14 ≤ nI i) => ?_⟩
  · rw [h1, nI_leI (by omega) (by omega)] at c1
    rw [if_neg (by omega)] at hk
    exact ⟨Or.inl rfl, hk⟩
  · rw [h1, nI_leI (by omega) (by omega)] at c1
    obtain ⟨e, l⟩ := h3 i (by omega)
    refine ⟨i, ⟨rfl, by omega⟩, hC _ _ _ _ _ (c_isIn (v := nI (T i)) (a := nI 97) (b := nI 122) (by rw [e]) (by decide +kernel) (by decide +kernel) ?_)⟩
    rw [gy_in (by omega) (by omega) (by omega)]
    by_cases c : 97 ≤ T i ∧ T i ≤ 122
    · rw [if_pos ⟨by omega, gy_so1.mpr c⟩] at hk
      rw [if_pos c]
      exact ⟨fun (q : nI 1 = 0) => absurd q (by decide), fun _ => ⟨Or.inr rfl, hk⟩⟩
    · rw [if_neg (fun q => c (gy_so1.mp q.2))] at hk
      rw [if_neg c]
      exact ⟨fun _ => ⟨Or.inl rfl, hk⟩, fun q => absurd rfl q⟩
theorem c_isDigit {i : Nat} {x : Int32} (hT : gy_bt T n I) (hx : x = nI i) (hi : i ≤ 96) (hk : K (some (.int (if i < n ∧ gy_so (T i) = 2 then nI 1 else nI 0))) I (sx_run rw m ln)) : sx_C 173 (d + 2) [.ref 78, .int x] I (sx_run rw m ln) K := by
  subst hx
  obtain ⟨h1, h2, h3⟩ := hT
  refine sx_enter (by decide +kernel) (Nat.le_of_ble_eq_true rfl) (sx_go m173 40 rfl (fun VV CC hV hC => ?_))
  refine ⟨fun (c1 : I 78 14 ≤ nI i) => ?_, fun (c1 : ¬ I 78 14 ≤ nI i) => ?_⟩
  · rw [h1, nI_leI (by omega) (by omega)] at c1
    rw [if_neg (by omega)] at hk
    exact ⟨Or.inl rfl, hk⟩
  · rw [h1, nI_leI (by omega) (by omega)] at c1
    obtain ⟨e, l⟩ := h3 i (by omega)
    refine ⟨i, ⟨rfl, by omega⟩, hC _ _ _ _ _ (c_isIn (v := nI (T i)) (a := nI 48) (b := nI 57) (by rw [e]) (by decide +kernel) (by decide +kernel) ?_)⟩
    rw [gy_in (by omega) (by omega) (by omega)]
    by_cases c : 48 ≤ T i ∧ T i ≤ 57
    · rw [if_pos ⟨by omega, gy_so2.mpr c⟩] at hk
      rw [if_pos c]
      exact ⟨fun (q : nI 1 = 0) => absurd q (by decide), fun _ => ⟨Or.inr rfl, hk⟩⟩
    · rw [if_neg (fun q => c (gy_so2.mp q.2))] at hk
      rw [if_neg c]
      exact ⟨fun _ => ⟨Or.inl rfl, hk⟩, fun q => absurd rfl q⟩
theorem c_isSign {x : Int32} (h1 : I 78 17 = nI 3 ∧ I 78 19 = x → K (some (.int (nI 1))) I (sx_run rw m ln)) (h0 : ¬ (I 78 17 = nI 3 ∧ I 78 19 = x) → K (some (.int (nI 0))) I (sx_run rw m ln)) : sx_C 175 (d + 1) [.ref 78, .int x] I (sx_run rw m ln) K := by
  refine sx_enter (by decide +kernel) (Nat.le_of_ble_eq_true rfl) (sx_go m175 40 rfl (fun VV CC hV hC => ?_))
  exact ⟨fun (c1 : ¬ I 78 17 = nI 3) => ⟨Or.inl rfl, h0 (fun q => c1 q.1)⟩, fun (c1 : I 78 17 = nI 3) => ⟨fun (c2 : ¬ I 78 19 = x) => ⟨Or.inl rfl, h0 (fun q => c2 q.2)⟩, fun (c2 : I 78 19 = x) => ⟨Or.inr rfl, h1 ⟨c1, c2⟩⟩⟩⟩
theorem c_step {a l : Nat} {x y : Int32} (ha : I 78 23 = nI a) (hl : I 78 22 = nI l) (hb : a + 2 * l + 1 < 3062) (hk : K none (sx_up (sx_up I 79 (upd (upd (I 79) (a + 2 * l) x) (a + 2 * l + 1) y)) 78 (upd (I 78) 22 (nI (l + 1)))) (sx_run rw m ln)) : sx_C 179 (d + 1) [.ref 78, .int x, .int y] I (sx_run rw m ln) K := by
  refine sx_enter (by decide +kernel) (Nat.le_of_ble_eq_true rfl) (sx_go m179 60 rfl (fun VV CC hV hC => ?_))
  refine ⟨a + 2 * l, ⟨by rw [ha, hl, pk_mul, nI_add], by omega⟩, a + 2 * l + 1, ⟨?_, by omega⟩, ?_⟩
  · rw [sx_up_ne (by decide), ha, hl, pk_mul, nI_add, nI_add]
  · have e78 : (sx_up I 79 (upd (upd (I 79) (a + 2 * l) x) (a + 2 * l + 1) y)) 78 = I 78 := sx_up_ne (by decide)
    have h : ∀ J : sx_I, J 78 = I 78 → K none (sx_up J 78 (upd (I 78) 22 (nI (l + 1)))) (sx_run rw m ln) → K none (sx_up J 78 (upd (J 78) 22 (J 78 22 + nI 1))) (sx_run rw m ln) := by
      intro J e q
      rw [e, hl, nI_add]; exact q
    have eJ : sx_up (sx_up I 79 (upd (I 79) (a + 2 * l) x)) 79 (upd (sx_up I 79 (upd (I 79) (a + 2 * l) x) 79) (a + 2 * l + 1) y) = sx_up I 79 (upd (upd (I 79) (a + 2 * l) x) (a + 2 * l + 1) y) := by
      rw [sx_up_same, sx_upup]
    refine h _ (by rw [eJ]; exact e78) (by rw [eJ]; exact hk)
theorem c_isName {key : Int32} {c : Nat} {x : Int32} {G : sx_G} (hx : x = nI c) (hc : c < 256) (hkey : key = 0 ∨ key = nI 1 ∨ key = nI 2) (hk : K (some (.int (if gy_nm key c = true then nI 1 else nI 0))) I G) : sx_C 178 (d + 1) [.int key, .int x] I G K := by
  subst hx
  have q : ∀ b, b < 256 → (nI c = nI b ↔ c = b) := fun b hb => nI_eq (by omega) (by omega)
  have q0 : nI 1 ≠ 0 := by decide
  have q2 : nI 2 ≠ 0 := by decide
  have q12 : nI 1 ≠ nI 2 := by decide
  refine sx_enter (by decide +kernel) (Nat.le_of_ble_eq_true rfl) (sx_go m178 60 rfl (fun VV CC hV hC => ?_))
  rcases hkey with e | e | e
  · subst e
    have hh : gy_nm 0 c = true ↔ (c = 119 ∨ c = 100 ∨ c = 112) := by
      rw [gy_nm_iff]; unfold gs_nmok
      constructor
      · rintro (h | h | h)
        · exact h.2
        · exact absurd h.1.symm q0
        · exact absurd h.1.symm q2
      · exact fun h => Or.inl ⟨rfl, h⟩
    refine ⟨fun _ => ?_, fun h => absurd rfl h⟩
    refine ⟨fun c1 => ⟨Or.inr rfl, sx_kk (if_pos (hh.mpr (Or.inl ((q _ (by decide)).mp c1)))).symm hk⟩, fun c1 => ⟨fun c2 => ⟨Or.inr rfl, sx_kk (if_pos (hh.mpr (Or.inr (Or.inl ((q _ (by decide)).mp c2))))).symm hk⟩, fun c2 => ⟨fun c3 => ⟨Or.inl rfl, sx_kk (if_neg (fun h => ?_)).symm hk⟩, fun c3 => ⟨Or.inr rfl, sx_kk (if_pos (hh.mpr (Or.inr (Or.inr ((q _ (by decide)).mp c3))))).symm hk⟩⟩⟩⟩
    rcases hh.mp h with h | h | h
    · exact c1 ((q _ (by decide)).mpr h)
    · exact c2 ((q _ (by decide)).mpr h)
    · exact c3 ((q _ (by decide)).mpr h)
  · subst e
    have hh : gy_nm (nI 1) c = true ↔ (c = 104 ∨ c = 108) := by
      rw [gy_nm_iff]; unfold gs_nmok
      constructor
      · rintro (h | h | h)
        · exact absurd h.1 q0
        · exact h.2
        · exact absurd h.1 q12
      · exact fun h => Or.inr (Or.inl ⟨rfl, h⟩)
    refine ⟨fun c0 => absurd c0 q0, fun _ => ⟨fun _ => ?_, fun h => absurd rfl h⟩⟩
    refine ⟨fun c1 => ⟨Or.inr rfl, sx_kk (if_pos (hh.mpr (Or.inl ((q _ (by decide)).mp c1)))).symm hk⟩, fun c1 => ⟨fun c2 => ⟨Or.inl rfl, sx_kk (if_neg (fun h => ?_)).symm hk⟩, fun c2 => ⟨Or.inr rfl, sx_kk (if_pos (hh.mpr (Or.inr ((q _ (by decide)).mp c2)))).symm hk⟩⟩⟩
    rcases hh.mp h with h | h
    · exact c1 ((q _ (by decide)).mpr h)
    · exact c2 ((q _ (by decide)).mpr h)
  · subst e
    have hh : gy_nm (nI 2) c = true ↔ (c = 119 ∨ c = 100) := by
      rw [gy_nm_iff]; unfold gs_nmok
      constructor
      · rintro (h | h | h)
        · exact absurd h.1 q2
        · exact absurd h.1.symm q12
        · exact h.2
      · exact fun h => Or.inr (Or.inr ⟨rfl, h⟩)
    refine ⟨fun c0 => absurd c0 q2, fun _ => ⟨fun c0 => absurd c0.symm q12, fun _ => ?_⟩⟩
    refine ⟨fun c1 => ⟨Or.inr rfl, sx_kk (if_pos (hh.mpr (Or.inl ((q _ (by decide)).mp c1)))).symm hk⟩, fun c1 => ⟨fun c2 => ⟨Or.inl rfl, sx_kk (if_neg (fun h => ?_)).symm hk⟩, fun c2 => ⟨Or.inr rfl, sx_kk (if_pos (hh.mpr (Or.inr ((q _ (by decide)).mp c2)))).symm hk⟩⟩⟩
    rcases hh.mp h with h | h
    · exact c1 ((q _ (by decide)).mpr h)
    · exact c2 ((q _ (by decide)).mpr h)
end
