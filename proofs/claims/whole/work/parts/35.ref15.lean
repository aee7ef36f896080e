/-! ===== the reference: told, fee, fine, deal, tape ===== -/
def gs_told (s : Nat → Int32) (g w : Int32) : Int32 := if gs_in g 0 (s 0 - nI 1) = 0 ∨ gs_in w 0 (nI 8) = 0 then -1000000001 else if w = nI 5 then gs_looks s g.toNatClampNeg else if w = nI 6 then gs_falls (s (12 + 5 * g.toNatClampNeg + 0)) (s (12 + 5 * g.toNatClampNeg + 2)) else if w = nI 7 then gs_fights (s (12 + 5 * g.toNatClampNeg + 0)) else if w = nI 8 then gs_worth (s (12 + 5 * g.toNatClampNeg + 0)) (s (12 + 5 * g.toNatClampNeg + 2)) else s (12 + 5 * g.toNatClampNeg + w.toNatClampNeg)
section
variable {d m : Nat} {I : sx_I} {rw : Nat → Nat → Option Nat} {ln : Nat → Nat} {K : sx_K}
theorem c_told {n : Nat} {g w : Int32} (hn : I 79 0 = nI n) (hn10 : n ≤ 10) (htx : gs_tx (I 79)) (hk : ∀ I', gs_sc I I' → K (some (.int (gs_told (I 79) g w))) I' (sx_run rw m ln)) : sx_C 135 (d + 6) [.ref 78, .int g, .int w] I (sx_run rw m ln) K := by
  refine sx_enter (by decide +kernel) (Nat.le_of_ble_eq_true rfl) (sx_go m135 60 rfl (fun VV CC hV hC => ?_))
  unfold gs_told at hk
  have bad : (gs_in g 0 (I 79 0 - nI 1) = 0 ∨ gs_in w 0 (nI 8) = 0) → K (some (.int (-1000000001))) I (sx_run rw m ln) := by
    intro h
    exact sx_kk (if_pos h).symm (hk I (gs_sc.rf I))
  refine hC _ _ _ _ _ (c_isGuard8 ⟨fun (c1 : gs_in g 0 (I 79 0 - nI 1) = 0) => bad (Or.inl c1), fun (c1 : ¬ gs_in g 0 (I 79 0 - nI 1) = 0) => hC _ _ _ _ _ (c_isIn rfl (by decide +kernel) (by decide +kernel) ⟨fun (c2 : ¬ gs_in w 0 (nI 8) = 0) => ?_, fun (c2 : gs_in w 0 (nI 8) = 0) => bad (Or.inr c2)⟩)⟩)
  rw [if_neg (fun h => h.elim c1 c2)] at hk
  obtain ⟨j, rfl, h3⟩ := gs_guard hn hn10 c1
  obtain ⟨i, rfl, _, h5⟩ := gs_in_nat (a := 0) (by decide) c2 (by decide)
  rw [nI_clamp (by omega), nI_clamp (by omega)] at hk
  refine ⟨fun (c3 : nI i = nI 5) => ?_, fun (c3 : ¬ nI i = nI 5) => ⟨fun (c4 : nI i = nI 6) => ?_, fun (c4 : ¬ nI i = nI 6) => ⟨fun (c5 : nI i = nI 7) => ?_, fun (c5 : ¬ nI i = nI 7) => ⟨fun (c6 : nI i = nI 8) => ?_, fun (c6 : ¬ nI i = nI 8) => ?_⟩⟩⟩⟩
  · rw [if_pos c3] at hk
    exact hC _ _ _ _ _ (c_looks rfl (by omega) htx (fun I2 h2 => hk I2 h2))
  · rw [if_neg c3, if_pos c4] at hk
    exact hC _ _ _ _ _ (c_falls8 rfl (by omega) (hk I (gs_sc.rf I)))
  · rw [if_neg c3, if_neg c4, if_pos c5] at hk
    exact hC _ _ _ _ _ (c_fights8 rfl (by omega) (hk I (gs_sc.rf I)))
  · rw [if_neg c3, if_neg c4, if_neg c5, if_pos c6] at hk
    exact hC _ _ _ _ _ (c_worth8 rfl (by omega) (hk I (gs_sc.rf I)))
  · rw [if_neg c3, if_neg c4, if_neg c5, if_neg c6] at hk
    exact hC _ _ _ _ _ (c_of rfl rfl (by omega) (hk I (gs_sc.rf I)))
theorem c_fee (htx : gs_tx (I 79)) (hk : ∀ I', gs_sc I I' → K (some (.int (gs_fee (I 79)))) I' (sx_run rw m ln)) : sx_C 168 (d + 4) [.ref 78] I (sx_run rw m ln) K := by
  obtain ⟨T, hT, hT14, hok⟩ := htx
  unfold gs_fee at hk
  rw [hT, nI_clamp (by omega)] at hk
  refine sx_enter (by decide +kernel) (Nat.le_of_ble_eq_true rfl) (sx_go m168 60 rfl (fun VV CC hV hC => ?_))
  refine hC _ _ _ _ _ (c_counts hT hT14 ⟨fun (c1 : 0 ≤ gs_counts (I 79) (nI 1) T) => ?_, fun (c1 : ¬ 0 ≤ gs_counts (I 79) (nI 1) T) => ⟨8, ⟨rfl, by omega⟩, sx_kk (if_pos (Int32.not_le.mp c1)).symm (hk I (gs_sc.rf I))⟩⟩)
  rcases gs_counts_lt (I 79) (nI 1) T hT14 with q | ⟨t, ht, q⟩
  · rw [q] at c1; exact absurd (show (0 : Int32) ≤ -1 from c1) (by decide +kernel)
  · obtain ⟨M, hM⟩ := hok t ht
    have hkey := gs_counts_key (I 79) (nI 1) T t hT14 ht q
    refine ⟨8, ⟨rfl, by omega⟩, 104, ⟨rfl, by omega⟩, 9, ⟨rfl, by omega⟩, 108, ⟨rfl, by omega⟩, ?_⟩
    rw [sx_up_same, sx_upup, q]
    have e79 : ∀ f, (sx_up I 92 f) 79 = I 79 := fun f => sx_up_ne (by omega)
    refine hC _ _ _ _ _ (c_worked rfl (M := M) (by rw [e79]; exact hM) (fun f => sx_kk ?_ (hk _ ?_)))
    · simp only [sx_upup, e79, sx_up_same]
      rw [q, if_neg (nI_pos (by omega)), nI_clamp (by omega)]
      refine gs_work_congr hM (fun c hc => ?_)
      rcases hc with ⟨e, -⟩ | ⟨-, rfl | rfl⟩ | ⟨e, -⟩
      · rw [hkey] at e; exact absurd e (by decide +kernel)
      · rfl
      · rfl
      · rw [hkey] at e; exact absurd e (by decide +kernel)
    · intro a h1 h2
      rw [sx_up_ne h2, sx_up_ne h1]
theorem c_fine {n : Nat} {g : Int32} (hn : I 79 0 = nI n) (hn10 : n ≤ 10) (htx : gs_tx (I 79)) (hk : ∀ I', gs_sc I I' → K (some (.int (gs_fine (I 79) g))) I' (sx_run rw m ln)) : sx_C 169 (d + 4) [.ref 78, .int g] I (sx_run rw m ln) K := by
  obtain ⟨T, hT, hT14, hok⟩ := htx
  unfold gs_fine at hk
  refine sx_enter (by decide +kernel) (Nat.le_of_ble_eq_true rfl) (sx_go m169 60 rfl (fun VV CC hV hC => ?_))
  refine hC _ _ _ _ _ (c_isGuard8 ⟨fun (c0 : ¬ gs_in g 0 (I 79 0 - nI 1) = 0) => ?_, fun (c0 : gs_in g 0 (I 79 0 - nI 1) = 0) => sx_kk (if_pos c0).symm (hk I (gs_sc.rf I))⟩)
  rw [if_neg c0] at hk
  obtain ⟨j, rfl, h3⟩ := gs_guard hn hn10 c0
  rw [nI_clamp (by omega)] at hk
  unfold gs_fineG at hk
  rw [hT, nI_clamp (by omega)] at hk
  refine hC _ _ _ _ _ (c_counts hT hT14 ⟨fun (c1 : 0 ≤ gs_counts (I 79) (nI 2) T) => ?_, fun (c1 : ¬ 0 ≤ gs_counts (I 79) (nI 2) T) => hC _ _ _ _ _ (c_of rfl rfl (by omega) (sx_kk (if_pos (Int32.not_le.mp c1)).symm (hk I (gs_sc.rf I))))⟩)
  rcases gs_counts_lt (I 79) (nI 2) T hT14 with q | ⟨t, ht, q⟩
  · rw [q] at c1; exact absurd (show (0 : Int32) ≤ -1 from c1) (by decide +kernel)
  · obtain ⟨M, hM⟩ := hok t ht
    have hkey := gs_counts_key (I 79) (nI 2) T t hT14 ht q
    refine hC _ _ _ _ _ (c_of rfl rfl (by omega) ⟨119, ⟨rfl, by omega⟩, ?_⟩)
    refine hC _ _ _ _ _ (c_of rfl rfl (by omega) ⟨100, ⟨rfl, by omega⟩, ?_⟩)
    rw [sx_up_same, sx_upup, q]
    have e79 : ∀ f, (sx_up I 92 f) 79 = I 79 := fun f => sx_up_ne (by omega)
    refine hC _ _ _ _ _ (c_worked rfl (M := M) (by rw [e79]; exact hM) (fun f => sx_kk ?_ (hk _ ?_)))
    · simp only [sx_upup, e79, sx_up_same]
      rw [q, if_neg (nI_pos (by omega)), nI_clamp (by omega)]
      refine gs_work_congr hM (fun c hc => ?_)
      rcases hc with ⟨e, -⟩ | ⟨e, -⟩ | ⟨-, rfl | rfl⟩
      · rw [hkey] at e; exact absurd e (by decide +kernel)
      · rw [hkey] at e; exact absurd e (by decide +kernel)
      · rfl
      · rfl
    · intro a h1 h2
      rw [sx_up_ne h2, sx_up_ne h1]
end
