/-! ===== the reference: what a slot holds is asked ===== -/
def gs_askA (H N W : Nat → Int32) (a k : Int32) : Int32 := if gs_in a 0 (nI 4) = 0 ∨ gs_in k 0 (nI 5) = 0 then -1000000001 else if H a.toNatClampNeg = 0 then -1000000011 else if H a.toNatClampNeg = nI 1 ∧ ¬ gs_isOf (N a.toNatClampNeg) k = 0 then W a.toNatClampNeg else -1000000012
def gs_item (H S R : Nat → Int32) (a p : Int32) : Int32 := if gs_in a 0 (nI 4) = 0 then -1000000001 else if ¬ H a.toNatClampNeg = nI 2 then (if H a.toNatClampNeg = 0 then -1000000011 else -1000000012) else if gs_in p 0 (S a.toNatClampNeg - nI 1) = 0 then -1000000013 else if R (24 * a.toNatClampNeg + p.toNatClampNeg) = -1000000005 then -1000000012 else R (24 * a.toNatClampNeg + p.toNatClampNeg)
def gs_rest (H N : Nat → Int32) (a v : Int32) : Int32 := if gs_in a 0 (nI 4) = 0 then -1000000001 else if ¬ H a.toNatClampNeg = nI 3 then (if H a.toNatClampNeg = 0 then -1000000011 else -1000000012) else if v = 0 then -1000000002 else gs_rem (N a.toNatClampNeg) v
section
variable {d m : Nat} {I : sx_I} {rw : Nat → Nat → Option Nat} {ln : Nat → Nat} {K : sx_K}
theorem c_ask {a k : Int32} (hk : K (some (.int (gs_askA (I 85) (I 86) (I 87) a k))) I (sx_run rw m ln)) : sx_C 203 (d + 3) [.ref 78, .int a, .int k] I (sx_run rw m ln) K := by
  refine sx_enter (by decide +kernel) (Nat.le_of_ble_eq_true rfl) (sx_go m203 60 rfl (fun VV CC hV hC => ?_))
  unfold gs_askA at hk
  refine hC _ _ _ _ _ (c_isSlot ⟨fun (c1 : gs_in a 0 (nI 4) = 0) => sx_kk (if_pos (Or.inl c1)).symm hk, fun (c1 : ¬ gs_in a 0 (nI 4) = 0) => hC _ _ _ _ _ (c_isIn rfl (by decide +kernel) (by decide +kernel) ⟨fun (c2 : ¬ gs_in k 0 (nI 5) = 0) => ?_, fun (c2 : gs_in k 0 (nI 5) = 0) => sx_kk (if_pos (Or.inr c2)).symm hk⟩)⟩)
  rw [if_neg (fun h => h.elim c1 c2)] at hk
  obtain ⟨j, rfl, _, h3⟩ := gs_in_nat (a := 0) (by decide) c1 (by decide)
  rw [nI_clamp (by omega)] at hk
  refine ⟨j, ⟨rfl, by omega⟩, fun (c3 : ¬ I 85 j = 0) => ⟨j, ⟨rfl, by omega⟩, fun (c4 : ¬ I 85 j = nI 1) => ?_, fun (c4 : I 85 j = nI 1) => ⟨j, ⟨rfl, by omega⟩, hC _ _ _ _ _ (c_isOf ⟨fun (c5 : _ = _) => ?_, fun (c5 : ¬ _ = _) => ⟨j, ⟨rfl, by omega⟩, ?_⟩⟩)⟩⟩, fun (c3 : I 85 j = 0) => sx_kk (if_pos c3).symm hk⟩
  · rw [if_neg c3, if_neg (fun h => c4 h.1)] at hk; exact hk
  · rw [if_neg c3, if_neg (fun h => h.2 c5)] at hk; exact hk
  · rw [if_neg c3, if_pos ⟨c4, c5⟩] at hk; exact hk
theorem c_rest {a v : Int32} (hk : K (some (.int (gs_rest (I 85) (I 86) a v))) I (sx_run rw m ln)) : sx_C 205 (d + 3) [.ref 78, .int a, .int v] I (sx_run rw m ln) K := by
  refine sx_enter (by decide +kernel) (Nat.le_of_ble_eq_true rfl) (sx_go m205 60 rfl (fun VV CC hV hC => ?_))
  unfold gs_rest at hk
  refine hC _ _ _ _ _ (c_isSlot ⟨fun (c1 : ¬ gs_in a 0 (nI 4) = 0) => ?_, fun (c1 : gs_in a 0 (nI 4) = 0) => sx_kk (if_pos c1).symm hk⟩)
  rw [if_neg c1] at hk
  obtain ⟨j, rfl, _, h3⟩ := gs_in_nat (a := 0) (by decide) c1 (by decide)
  rw [nI_clamp (by omega)] at hk
  refine ⟨j, ⟨rfl, by omega⟩, fun (c2 : I 85 j = nI 3) => ⟨fun (c3 : ¬ v = 0) => ⟨j, ⟨rfl, by omega⟩, c3, ?_⟩, fun (c3 : v = 0) => ?_⟩, fun (c2 : ¬ I 85 j = nI 3) => ⟨j, ⟨rfl, by omega⟩, fun (c3 : ¬ I 85 j = 0) => ?_, fun (c3 : I 85 j = 0) => ?_⟩⟩
  · rw [if_neg (fun h => h c2), if_neg c3] at hk; exact hk
  · rw [if_neg (fun h => h c2), if_pos c3] at hk; exact hk
  · rw [if_pos c2, if_neg c3] at hk; exact hk
  · rw [if_pos c2, if_pos c3] at hk; exact hk
theorem c_item {a p : Int32} (hS : ∀ j, j < 5 → ∃ c, I 88 j = nI c ∧ c ≤ 24) (hk : K (some (.int (gs_item (I 85) (I 88) (I 89) a p))) I (sx_run rw m ln)) : sx_C 204 (d + 3) [.ref 78, .int a, .int p] I (sx_run rw m ln) K := by
  refine sx_enter (by decide +kernel) (Nat.le_of_ble_eq_true rfl) (sx_go m204 60 rfl (fun VV CC hV hC => ?_))
  unfold gs_item at hk
  refine hC _ _ _ _ _ (c_isSlot ⟨fun (c1 : ¬ gs_in a 0 (nI 4) = 0) => ?_, fun (c1 : gs_in a 0 (nI 4) = 0) => sx_kk (if_pos c1).symm hk⟩)
  rw [if_neg c1] at hk
  obtain ⟨j, rfl, _, h3⟩ := gs_in_nat (a := 0) (by decide) c1 (by decide)
  rw [nI_clamp (by omega)] at hk
  refine ⟨j, ⟨rfl, by omega⟩, fun (c2 : I 85 j = nI 2) => ⟨j, ⟨rfl, by omega⟩, hC _ _ _ _ _ (c_isIn rfl (by decide +kernel) rfl ⟨fun (c3 : ¬ gs_in p 0 (I 88 j - nI 1) = 0) => ?_, fun (c3 : gs_in p 0 (I 88 j - nI 1) = 0) => ?_⟩)⟩, fun (c2 : ¬ I 85 j = nI 2) => ⟨j, ⟨rfl, by omega⟩, fun (c3 : ¬ I 85 j = 0) => ?_, fun (c3 : I 85 j = 0) => ?_⟩⟩
  · rw [if_neg (fun h => h c2), if_neg c3] at hk
    obtain ⟨c, h5, h6⟩ := hS j (by omega)
    obtain ⟨i, rfl, h7⟩ : ∃ i, p = nI i ∧ i < 24 := by
      have h8 := gs_in_iff.mp c3
      rw [h5] at h8 c3
      rcases Nat.eq_zero_or_pos c with rfl | hp
      · exact absurd (Int32.le_trans h8.1 h8.2) (by decide +kernel)
      · rw [pk_sub (by omega)] at c3
        obtain ⟨i, e, _, h9⟩ := gs_in_nat (a := 0) (by omega) c3 (by decide)
        exact ⟨i, e, by omega⟩
    rw [nI_clamp (by omega)] at hk
    refine ⟨24 * j + i, ⟨by simp only [pk_mul, nI_add], by omega⟩, fun (c4 : ¬ I 89 (24 * j + i) = -1000000005) => ?_, fun (c4 : I 89 (24 * j + i) = -1000000005) => ?_⟩
    · rw [if_neg c4] at hk; exact hk
    · rw [if_pos c4] at hk; exact hk
  · rw [if_neg (fun h => h c2), if_pos c3] at hk; exact hk
  · rw [if_pos c2, if_neg c3] at hk; exact hk
  · rw [if_pos c2, if_pos c3] at hk; exact hk
end
