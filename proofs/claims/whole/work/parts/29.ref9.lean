theorem gs_nat {v : Int32} (h : ¬ v < 0) : ∃ c, v = nI c ∧ c < 2 ^ 31 := by
  have h1 := Int32.not_lt.mp h
  rw [Int32.le_iff_toInt_le] at h1
  have h2 := v.toInt_lt
  refine ⟨v.toInt.toNat, ?_, by have : (0 : Int32).toInt = 0 := rfl; omega⟩
  apply Int32.toInt_inj.mp
  have : (0 : Int32).toInt = 0 := rfl
  rw [nI_toInt (by omega)]
  omega
theorem gs_guard {v x : Int32} {n : Nat} (hx : x = nI n) (hn10 : n ≤ 10) (h : ¬ gs_in v 0 (x - nI 1) = 0) : ∃ k, v = nI k ∧ k < n := by
  subst hx
  have h1 := gs_in_iff.mp h
  rcases Nat.eq_zero_or_pos n with rfl | hp
  · exfalso
    have := Int32.le_trans h1.1 h1.2
    exact absurd this (by decide +kernel)
  · rw [pk_sub (by omega)] at h
    obtain ⟨c, h2, _, h3⟩ := gs_in_nat (a := 0) (by omega) h (by decide)
    exact ⟨c, h2, by omega⟩
def gs_hold (I : sx_I) (I' : sx_I) : Prop := gs_sd I I' ∧ ∀ i, i < 62 → I' 90 i = I 79 i
theorem gs_hold.at {I I' : sx_I} (h : gs_hold I I') : I' 79 = I 79 := h.1 79 (by decide) (by decide) (by decide)
theorem gs_hold.start (I : sx_I) : gs_hold I (sx_up I 90 (gs_62 (I 90) (I 79) 62)) := by
  refine ⟨fun a h1 _ _ => sx_up_ne h1, fun i hi => ?_⟩
  rw [sx_up_same]
  exact if_pos hi
theorem gs_hold.back {I I' I2 : sx_I} {s' : Nat → Int32} (h : gs_hold I I') (hs : gs_sc (sx_up I' 79 s') I2) (hl : gs_lo (I 79) s') : gs_hold I (sx_up I2 79 (gs_62 (I2 79) (I2 90) 62)) := by
  have e90 : I2 90 = I' 90 := (hs 90 (by decide) (by decide)).trans (sx_up_ne (by decide))
  have e79 : gs_62 (I2 79) (I2 90) 62 = I 79 := by
    rw [hs.at, e90]
    exact gs_62_back hl h.2
  rw [e79]
  refine ⟨fun a h1 h2 h3 => ?_, fun i hi => ?_⟩
  · by_cases e : a = 79
    · subst e; exact sx_up_same _ _ _
    · rw [sx_up_ne e, hs a h2 h3, sx_up_ne e]
      exact h.1 a h1 h2 h3
  · rw [sx_up_ne (by decide), e90]
    exact h.2 i hi
def gs_behind (s : Nat → Int32) (v w : Int32) : Int32 := if gs_in v 0 (nI 100) = 0 ∨ w < 0 ∨ (nI 3 < w ∧ gs_in (w - nI 4) 0 (s 0 - nI 1) = 0) then -1000000001 else (if w < nI 3 then gs_many v.toNatClampNeg s (7 + w.toNatClampNeg) else if w = nI 3 then gs_cnt (gs_many v.toNatClampNeg s) else gs_many v.toNatClampNeg s (12 + 5 * (w - nI 4).toNatClampNeg + 3))
section
variable {d m : Nat} {I : sx_I} {rw : Nat → Nat → Option Nat} {ln : Nat → Nat} {K : sx_K}
theorem c_behind {n : Nat} {v w : Int32} (hn : I 79 0 = nI n) (hn10 : n ≤ 10) (htx : gs_tx (I 79)) (hk : ∀ I', gs_sd I I' → K (some (.int (gs_behind (I 79) v w))) I' (sx_run rw m ln)) : sx_C 162 (d + 9) [.ref 78, .int v, .int w] I (sx_run rw m ln) K := by
  have bad : (gs_in v 0 (nI 100) = 0 ∨ w < 0 ∨ (nI 3 < w ∧ gs_in (w - nI 4) 0 (I 79 0 - nI 1) = 0)) → K (some (.int (-1000000001))) I (sx_run rw m ln) := by
    intro h
    have := hk I (gs_sd.rf I)
    unfold gs_behind at this
    rw [if_pos h] at this
    exact this
  refine sx_enter (by decide +kernel) (Nat.le_of_ble_eq_true rfl) (sx_go m162 100 rfl (fun VV CC hV hC => ?_))
  refine hC _ _ _ _ _ (c_isIn rfl (by decide +kernel) (by decide +kernel) ⟨fun (c1 : gs_in v 0 (nI 100) = 0) => bad (Or.inl c1), fun (c1 : ¬ gs_in v 0 (nI 100) = 0) => ⟨fun (c2 : w < 0) => bad (Or.inr (Or.inl c2)), fun (c2 : ¬ w < 0) => ⟨fun (c3 : w ≤ nI 3) => ?_, fun (c3 : ¬ w ≤ nI 3) => ?_⟩⟩⟩)
  · have hv : ¬ (gs_in v 0 (nI 100) = 0 ∨ w < 0 ∨ (nI 3 < w ∧ gs_in (w - nI 4) 0 (I 79 0 - nI 1) = 0)) := by
      rintro (h | h | h)
      · exact c1 h
      · exact c2 h
      · exact absurd h.1 (Int32.not_lt.mpr c3)
    obtain ⟨c, h1, _, h2⟩ := gs_in_nat (a := 0) (by decide) c1 (by decide)
    obtain ⟨k, h3, h4⟩ := gs_nat c2
    subst h1; subst h3
    unfold gs_behind at hk
    rw [if_neg hv, nI_clamp (by omega), nI_clamp h4] at hk
    refine hC _ _ _ _ _ (c_laysBy (hC _ _ _ _ _ (c_many rfl (by omega) (by rw [sx_up_ne (by decide)]; exact hn) hn10 (by rw [sx_up_ne (by decide)]; exact htx) (fun I2 h5 => ?_))))
    rw [sx_up_ne (a := 90) (i := 79) (by decide)] at h5
    have hl := gs_lo.many hn hn10 c
    have hb := ((gs_hold.start I).back h5 hl).1
    have e2 := h5.at
    refine ⟨fun (c4 : nI 3 ≤ nI k) => ⟨fun (c5 : ¬ nI k = nI 3) => ?_, fun (c5 : nI k = nI 3) => ?_⟩, fun (c4 : ¬ nI 3 ≤ nI k) => ⟨7 + k, ⟨nI_add _ _, ?_⟩, ?_⟩⟩
    · exfalso
      rw [nI_leI (by omega) (by omega)] at c3 c4
      exact c5 (by rw [show k = 3 by omega])
    · refine hC _ _ _ _ _ (c_counted8 (n := n) (by rw [e2]; exact hl.1.trans hn) hn10 (by rw [e2]; exact gs_tx_lo hl htx) (fun I3 h6 => hC _ _ _ _ _ (c_laysBack (sx_kk ?_ (hk _ ((gs_hold.start I).back (h5.tr h6) hl).1)))))
      rw [if_neg (Int32.not_lt.mpr c4), if_pos c5, e2]
    · have : k < 3 := by
        refine Nat.lt_of_not_le (fun h => c4 ((nI_leI (by omega) (by omega)).mpr h))
      omega
    · refine hC _ _ _ _ _ (c_laysBack (sx_kk ?_ (hk _ hb)))
      rw [if_pos (Int32.not_le.mp c4), e2]
  · refine hC _ _ _ _ _ (c_isGuard8 ⟨fun (c4 : ¬ gs_in (w - nI 4) 0 (I 79 0 - nI 1) = 0) => ?_, fun (c4 : gs_in (w - nI 4) 0 (I 79 0 - nI 1) = 0) => bad (Or.inr (Or.inr ⟨Int32.not_le.mp c3, c4⟩))⟩)
    have hv : ¬ (gs_in v 0 (nI 100) = 0 ∨ w < 0 ∨ (nI 3 < w ∧ gs_in (w - nI 4) 0 (I 79 0 - nI 1) = 0)) := by
      rintro (h | h | h)
      · exact c1 h
      · exact c2 h
      · exact c4 h.2
    obtain ⟨c, h1, _, h2⟩ := gs_in_nat (a := 0) (by decide) c1 (by decide)
    obtain ⟨k, h3, h4⟩ := gs_guard hn hn10 c4
    subst h1
    have c6 : ¬ w < nI 3 := fun h => c3 (Int32.le_of_lt h)
    have c7 : ¬ w = nI 3 := fun h => c3 (h ▸ Int32.le_refl _)
    unfold gs_behind at hk
    rw [if_neg hv, nI_clamp (by omega), h3, nI_clamp (by omega), if_neg c6, if_neg c7] at hk
    refine hC _ _ _ _ _ (c_laysBy (hC _ _ _ _ _ (c_many rfl (by omega) (by rw [sx_up_ne (by decide)]; exact hn) hn10 (by rw [sx_up_ne (by decide)]; exact htx) (fun I2 h5 => ?_))))
    rw [sx_up_ne (a := 90) (i := 79) (by decide)] at h5
    have hl := gs_lo.many hn hn10 c
    have hb := ((gs_hold.start I).back h5 hl).1
    have e2 := h5.at
    refine ⟨fun (c4 : nI 3 ≤ w) => ⟨fun (c5 : ¬ w = nI 3) => ?_, fun (c5 : w = nI 3) => absurd c5 c7⟩, fun (c4 : ¬ nI 3 ≤ w) => absurd (Int32.le_of_lt (Int32.not_le.mp c3)) c4⟩
    refine hC _ _ _ _ _ (c_of h3 rfl (by omega) (hC _ _ _ _ _ (c_laysBack (sx_kk ?_ (hk _ hb)))))
    rw [e2]
end
