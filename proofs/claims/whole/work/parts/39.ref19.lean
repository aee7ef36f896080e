/-! ===== the reference: sheets ===== -/
def gs_sheetA (a sort n : Int32) : Int32 := if gs_in a 0 (nI 3) = 0 ∨ gs_in sort (-1) (nI 1) = 0 ∨ (¬ sort < 0 ∧ nI 24 < n) then -1000000001 else if sort < 0 then 0 else if n < 0 then -1000000014 else n
def gs_sheetI (I : sx_I) (j : Nat) (sort v : Int32) : sx_I := sx_up (sx_up (sx_up I 82 (upd (I 82) j sort)) 83 (upd (I 83) j v)) 84 (gs_tp (I 84) (24 * j) (fun _ => 0) 24)
def gs_sheetJ (I : sx_I) (a sort n : Int32) : sx_I := if gs_in a 0 (nI 3) = 0 ∨ gs_in sort (-1) (nI 1) = 0 ∨ (¬ sort < 0 ∧ nI 24 < n) then I else if sort < 0 then gs_sheetI I a.toNatClampNeg sort 0 else if n < 0 then I else gs_sheetI I a.toNatClampNeg sort n
theorem gs_sheet0 (I : sx_I) (A B : Nat → Int32) : sx_up (sx_up I 82 A) 83 B = sx_up (sx_up (sx_up I 82 A) 83 B) 84 (I 84) := (sx_upat ((sx_up_ne (by decide)).trans (sx_up_ne (by decide)))).symm
section
variable {d m : Nat} {I : sx_I} {rw : Nat → Nat → Option Nat} {ln : Nat → Nat} {K : sx_K}
theorem v_sheet {J : sx_I} {j : Nat} {sort v : Int32} (hj : j < 4) (hk : K (some (.int v)) (gs_sheetI J j sort v) (sx_run rw m ln)) :
    ∀ (r k : Nat) (I : sx_I), k + r = 24 → (I = sx_up (sx_up (sx_up J 82 (upd (J 82) j sort)) 83 (upd (J 83) j v)) 84 (gs_tp (J 84) (24 * j) (fun _ => 0) k)) → sx_V 194 (d + 1) 0 0 K 69 [(0, .ref 78), (1, .int (nI j)), (4, .int (nI k))] [] I (sx_run rw m ln) := by
  refine sx_for 24 (fun I h => ?_) (fun k I hk2 h ih => ?_)
  · have e83 : I 83 j = v := by rw [h, sx_up_ne (by decide), sx_up_same, pk_us]
    have h2 : I = gs_sheetI J j sort v := h
    refine sx_go m194 60 rfl (fun VV CC hV hC => ?_)
    refine ⟨fun _ => ⟨j, ⟨rfl, by omega⟩, sx_kk e83 (by rw [h2]; exact hk)⟩, fun c1 => absurd (nI_le (Nat.le_refl 24) (by decide)) c1⟩
  · refine sx_go m194 60 rfl (fun VV CC hV hC => ?_)
    refine ⟨fun c1 => absurd c1 (nI_ge hk2 (by decide)), fun c1 => ⟨24 * j + k, ⟨by simp only [pk_mul, nI_add], by omega⟩, hV _ _ _ _ _ _ _ ?_⟩⟩
    have e84 : I 84 = gs_tp (J 84) (24 * j) (fun _ => 0) k := by rw [h, sx_up_same]
    have := ih (sx_up I 84 (upd (I 84) (24 * j + k) 0)) (by rw [e84, h, sx_upup]; rfl)
    rw [nI_succ] at this
    exact this
theorem c_sheet {a sort n : Int32} (hk : K (some (.int (gs_sheetA a sort n))) (gs_sheetJ I a sort n) (sx_run rw m ln)) : sx_C 194 (d + 3) [.ref 78, .int a, .int sort, .int n] I (sx_run rw m ln) K := by
  refine sx_enter (by decide +kernel) (Nat.le_of_ble_eq_true rfl) (sx_go m194 80 rfl (fun VV CC hV hC => ?_))
  unfold gs_sheetA gs_sheetJ at hk
  have bad : (gs_in a 0 (nI 3) = 0 ∨ gs_in sort (-1) (nI 1) = 0 ∨ (¬ sort < 0 ∧ nI 24 < n)) → K (some (.int (-1000000001))) I (sx_run rw m ln) := by
    intro h
    rw [if_pos h, if_pos h] at hk
    exact hk
  refine hC _ _ _ _ _ (c_isSheet ⟨fun (c1 : gs_in a 0 (nI 3) = 0) => bad (Or.inl c1), fun (c1 : ¬ gs_in a 0 (nI 3) = 0) => hC _ _ _ _ _ (c_isIn rfl (a := -1) (by decide +kernel) (by decide +kernel) ⟨fun (c2 : gs_in sort (-1) (nI 1) = 0) => bad (Or.inr (Or.inl c2)), fun (c2 : ¬ gs_in sort (-1) (nI 1) = 0) => ?_⟩)⟩)
  obtain ⟨j, rfl, _, h3⟩ := gs_in_nat (a := 0) (by decide) c1 (by decide)
  rw [nI_clamp (by omega)] at hk
  refine ⟨fun (c3 : sort < 0) => ⟨fun (_ : sort < 0) => ⟨j, ⟨rfl, by omega⟩, ⟨fun (q : 0 ≤ sort) => absurd c3 (Int32.not_lt.mpr q), fun (_ : ¬ 0 ≤ sort) => ⟨j, ⟨rfl, by omega⟩, hV _ _ _ _ _ _ _ ?_⟩⟩⟩, fun (q : ¬ sort < 0) => absurd c3 q⟩, fun (c3 : ¬ sort < 0) => ⟨fun (c4 : n ≤ nI 24) => ⟨fun (q : sort < 0) => absurd q c3, fun (_ : ¬ sort < 0) => ⟨fun (c5 : 0 ≤ n) => ⟨j, ⟨rfl, by omega⟩, ⟨fun (_ : 0 ≤ sort) => ⟨j, ⟨rfl, by omega⟩, hV _ _ _ _ _ _ _ ?_⟩, fun (q : ¬ 0 ≤ sort) => absurd (Int32.not_lt.mp c3) q⟩⟩, fun (c5 : ¬ 0 ≤ n) => ?_⟩⟩, fun (c4 : ¬ n ≤ nI 24) => bad (Or.inr (Or.inr ⟨c3, Int32.not_le.mp c4⟩))⟩⟩
  · have hb : ¬ (gs_in (nI j) 0 (nI 3) = 0 ∨ gs_in sort (-1) (nI 1) = 0 ∨ (¬ sort < 0 ∧ nI 24 < n)) := by
      rintro (h | h | h)
      · exact c1 h
      · exact c2 h
      · exact h.1 c3
    rw [if_neg hb, if_neg hb, if_pos c3, if_pos c3] at hk
    refine v_sheet (d := d + 2) (J := I) (by omega) hk 24 0 _ (by omega) ?_
    rw [sx_up_ne (a := 82) (i := 83) (by decide)]
    exact gs_sheet0 I _ _
  · have hb : ¬ (gs_in (nI j) 0 (nI 3) = 0 ∨ gs_in sort (-1) (nI 1) = 0 ∨ (¬ sort < 0 ∧ nI 24 < n)) := by
      rintro (h | h | h)
      · exact c1 h
      · exact c2 h
      · exact absurd h.2 (Int32.not_lt.mpr c4)
    rw [if_neg hb, if_neg hb, if_neg c3, if_neg c3, if_neg (Int32.not_lt.mpr c5), if_neg (Int32.not_lt.mpr c5)] at hk
    refine v_sheet (d := d + 2) (J := I) (by omega) hk 24 0 _ (by omega) ?_
    rw [sx_up_ne (a := 82) (i := 83) (by decide)]
    exact gs_sheet0 I _ _
  · have hb : ¬ (gs_in (nI j) 0 (nI 3) = 0 ∨ gs_in sort (-1) (nI 1) = 0 ∨ (¬ sort < 0 ∧ nI 24 < n)) := by
      rintro (h | h | h)
      · exact c1 h
      · exact c2 h
      · exact absurd h.2 (Int32.not_lt.mpr c4)
    rw [if_neg hb, if_neg hb, if_neg c3, if_neg c3, if_pos (Int32.not_le.mp c5), if_pos (Int32.not_le.mp c5)] at hk
    exact hk
end
