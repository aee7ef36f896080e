/-! ===== the reference: the border told; a text told ===== -/
def gs_border (s : Nat → Int32) (w : Int32) : Int32 := if gs_in w 0 (nI 6) = 0 then -1000000001 else if w < nI 3 then s (7 + w.toNatClampNeg) else if w = nI 3 then gs_cnt s else if w = nI 4 then gs_str s else if w = nI 5 then gs_downs s else gs_doubts s
def gs_textTold (s : Nat → Int32) (t w : Int32) : Int32 := if gs_in t 0 (s 1 - nI 1) = 0 ∨ gs_in w 0 (nI 1) = 0 then -1000000001 else s (62 + 200 * t.toNatClampNeg + w.toNatClampNeg)
section
variable {d m : Nat} {I : sx_I} {rw : Nat → Nat → Option Nat} {ln : Nat → Nat} {K : sx_K}
theorem c_border {n : Nat} {w : Int32} (hn : I 79 0 = nI n) (hn10 : n ≤ 10) (htx : gs_tx (I 79)) (hk : ∀ I', gs_sc I I' → K (some (.int (gs_border (I 79) w))) I' (sx_run rw m ln)) : sx_C 156 (d + 7) [.ref 78, .int w] I (sx_run rw m ln) K := by
  unfold gs_border at hk
  refine sx_enter (by decide +kernel) (Nat.le_of_ble_eq_true rfl) (sx_go m156 60 rfl (fun VV CC hV hC => ?_))
  refine hC _ _ _ _ _ (c_isIn rfl (by decide +kernel) (by decide +kernel) ⟨fun (c1 : ¬ gs_in w 0 (nI 6) = 0) => ?_, fun (c1 : gs_in w 0 (nI 6) = 0) => sx_kk (if_pos c1).symm (hk I (gs_sc.rf I))⟩)
  rw [if_neg c1] at hk
  obtain ⟨c, rfl, -, hc⟩ := gs_in_nat (a := 0) (by omega) c1 (by decide)
  refine ⟨fun (c2 : nI 3 ≤ nI c) => ⟨fun (c3 : ¬ nI c = nI 3) => ⟨fun (c4 : ¬ nI c = nI 4) => ⟨fun (c5 : ¬ nI c = nI 5) => ?_, fun (c5 : nI c = nI 5) => ?_⟩, fun (c4 : nI c = nI 4) => ?_⟩, fun (c3 : nI c = nI 3) => ?_⟩, fun (c2 : ¬ nI 3 ≤ nI c) => ?_⟩
  · rw [if_neg (Int32.not_lt.mpr c2), if_neg c3, if_neg c4, if_neg c5] at hk
    exact hC _ _ _ _ _ (c_doubts hn hn10 (hk I (gs_sc.rf I)))
  · rw [if_neg (Int32.not_lt.mpr c2), if_neg c3, if_neg c4, if_pos c5] at hk
    exact hC _ _ _ _ _ (c_downs hn hn10 (hk I (gs_sc.rf I)))
  · rw [if_neg (Int32.not_lt.mpr c2), if_neg c3, if_pos c4] at hk
    exact hC _ _ _ _ _ (c_strength8 hn hn10 (hk I (gs_sc.rf I)))
  · rw [if_neg (Int32.not_lt.mpr c2), if_pos c3] at hk
    exact hC _ _ _ _ _ (c_counted8 hn hn10 htx (fun I' h => hk I' h))
  · rw [if_pos (Int32.not_le.mp c2), nI_clamp (by omega)] at hk
    exact ⟨7 + c, ⟨nI_add _ _, by omega⟩, hk I (gs_sc.rf I)⟩
theorem c_textTold {T : Nat} {t w : Int32} (hT : I 79 1 = nI T) (hT14 : T ≤ 14) (hk : K (some (.int (gs_textTold (I 79) t w))) I (sx_run rw m ln)) : sx_C 188 (d + 3) [.ref 78, .int t, .int w] I (sx_run rw m ln) K := by
  unfold gs_textTold at hk
  refine sx_enter (by decide +kernel) (Nat.le_of_ble_eq_true rfl) (sx_go m188 60 rfl (fun VV CC hV hC => ?_))
  refine hC _ _ _ _ _ (c_isText ⟨fun (c1 : gs_in t 0 (I 79 1 - nI 1) = 0) => sx_kk (if_pos (Or.inl c1)).symm hk, fun (c1 : ¬ gs_in t 0 (I 79 1 - nI 1) = 0) => hC _ _ _ _ _ (c_isIn rfl (by decide +kernel) (by decide +kernel) ⟨fun (c2 : ¬ gs_in w 0 (nI 1) = 0) => ?_, fun (c2 : gs_in w 0 (nI 1) = 0) => sx_kk (if_pos (Or.inr c2)).symm hk⟩)⟩)
  rw [if_neg (fun h => h.elim c1 c2)] at hk
  obtain ⟨j, rfl, hj⟩ := gs_place hT (by omega) c1
  obtain ⟨c, rfl, -, hc⟩ := gs_in_nat (a := 0) (by omega) c2 (by decide)
  rw [nI_clamp (by omega), nI_clamp (by omega)] at hk
  exact hC _ _ _ _ _ (c_textAt rfl ⟨62 + 200 * j + c, ⟨nI_add _ _, by omega⟩, hk⟩)
end
