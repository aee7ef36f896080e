/-! ===== the reference: needed, fee, fine ===== -/
def gs_neF (s : Nat → Int32) (c r : Nat) : Bool := decide (gs_rc (upd s 3 (nI r)) c = 0)
def gs_needed (s : Nat → Int32) (v : Int32) : Int32 := if gs_in v (nI 1) (nI 60) = 0 then -1000000001 else if gs_fst (gs_neF s v.toNatClampNeg) 20 < 20 then nI (gs_fst (gs_neF s v.toNatClampNeg) 20) else -1000000005
section
variable {d m : Nat} {I : sx_I} {rw : Nat → Nat → Option Nat} {ln : Nat → Nat} {K : sx_K}
theorem v_needed {n c : Nat} (hc1 : 1 ≤ c) (hc : c ≤ 100) (hn : I 79 0 = nI n) (hn10 : n ≤ 10) (htx : gs_tx (I 79)) (hr : gs_rf (I 79)) (hk : ∀ I', gs_sd I I' → K (some (.int (if gs_fst (gs_neF (I 79) c) 20 < 20 then nI (gs_fst (gs_neF (I 79) c) 20) else -1000000005))) I' (sx_run rw m ln)) :
    ∀ (r k : Nat) (I' : sx_I), k + r = 20 → (gs_hold I I' ∧ ∀ i, i < k → gs_neF (I 79) c i = false) → sx_V 166 (d + 9) 0 0 K 29 [(0, .ref 78), (1, .int (nI c)), (2, .int (gs_raids (I 79))), (3, .int (nI k)), (4, .int 0)] [] I' (sx_run rw m ln) := by
  refine sx_for 20 (fun I' hh => ?_) (fun k I' hkc hh ih => ?_)
  · have hk2 := hk I' hh.1.1
    rw [gs_fst_none _ _ hh.2, if_neg (Nat.lt_irrefl _)] at hk2
    refine sx_go m166 60 rfl (fun VV CC hV hC => ?_)
    exact ⟨fun c1 => ⟨fun _ => hk2, fun (q : ¬ (0 : Int32) = 0) => absurd rfl q⟩, fun c1 => absurd (nI_le (Nat.le_refl 20) (by omega)) c1⟩
  · obtain ⟨hh, hbef⟩ := hh
    have e79 := hh.at
    have l1 : gs_lo (I 79) (upd (I 79) 3 (nI k)) := gs_lo.up _ 3 _ (by omega) (by omega)
    have hl := l1.tr (gs_lo.many (l1.1.trans hn) hn10 c)
    have er : gs_raids (upd (I 79) 3 (nI k)) = gs_raids (I 79) := by
      unfold gs_raids; rw [pk_un (by omega), pk_un (by omega)]
    have hr2 : gs_rf (upd (I 79) 3 (nI k)) := by unfold gs_rf; rw [er]; exact hr
    refine sx_go m166 100 rfl (fun VV CC hV hC => ?_)
    refine ⟨fun c1 => absurd c1 (nI_ge hkc (by omega)), fun c1 => ⟨fun (q : ¬ (0 : Int32) = 0) => absurd rfl q, fun _ => ⟨3, ⟨rfl, by omega⟩, hC _ _ _ _ _ (c_many rfl (by omega) (by rw [sx_up_same, e79]; exact l1.1.trans hn) hn10 (by rw [sx_up_same, e79]; exact gs_tx_lo l1 htx) (fun I2 h2 => ?_))⟩⟩⟩
    rw [sx_up_same, sx_upup, e79] at h2
    have hb := hh.back h2 hl
    have e2 : gs_raids (I2 79) = gs_raids (I 79) ↔ gs_rc (upd (I 79) 3 (nI k)) c = 0 := by
      rw [h2.at, ← er]
      exact gs_raids_eq hr2 (by omega)
    refine hC _ _ _ _ _ (c_raids ⟨fun (c2 : ¬ gs_raids (I2 79) = gs_raids (I 79)) => hC _ _ _ _ _ (c_laysBack (hV _ _ _ _ _ _ _ ?_)), fun (c2 : gs_raids (I2 79) = gs_raids (I 79)) => hC _ _ _ _ _ (c_laysBack (hV _ _ _ _ _ _ _ ?_))⟩)
    · rw [show nI k + nI 1 = nI (k + 1) from nI_add _ _]
      refine ih _ ⟨hb, fun i hi => ?_⟩
      rcases Nat.lt_or_ge i k with q | q
      · exact hbef i q
      · have : i = k := by omega
        subst this
        exact decide_eq_false (fun h => c2 (e2.mpr h))
    · have e3 : gs_fst (gs_neF (I 79) c) 20 = k := gs_fst_at _ 20 k hkc hbef (decide_eq_true (e2.mp c2))
      have hk2 := hk _ hb.1
      rw [e3, if_pos hkc] at hk2
      rw [show nI k + nI 1 = nI (k + 1) from nI_add _ _]
      refine sx_go m166 100 rfl (fun VV CC hV hC => ?_)
      have e4 : nI (k + 1) - nI 1 = nI k := pk_sub (by omega)
      refine ⟨fun c1 => ⟨fun (q : nI 1 = 0) => absurd q (by decide +kernel), fun _ => sx_kk e4 hk2⟩, fun c1 => ⟨fun _ => ⟨fun (q : nI 1 = 0) => absurd q (by decide +kernel), fun _ => sx_kk e4 hk2⟩, fun (q : nI 1 = 0) => absurd q (by decide +kernel)⟩⟩
theorem c_needed {n : Nat} {v : Int32} (hn : I 79 0 = nI n) (hn10 : n ≤ 10) (htx : gs_tx (I 79)) (hr : gs_rf (I 79)) (hk : ∀ I', gs_sd I I' → K (some (.int (gs_needed (I 79) v))) I' (sx_run rw m ln)) : sx_C 166 (d + 9) [.ref 78, .int v] I (sx_run rw m ln) K := by
  refine sx_enter (by decide +kernel) (Nat.le_of_ble_eq_true rfl) (sx_go m166 60 rfl (fun VV CC hV hC => ?_))
  unfold gs_needed at hk
  refine hC _ _ _ _ _ (c_isIn rfl (by decide +kernel) (by decide +kernel) ⟨fun (c1 : ¬ gs_in v (nI 1) (nI 60) = 0) => hC _ _ _ _ _ (c_laysBy (hC _ _ _ _ _ (c_raids (hV _ _ _ _ _ _ _ ?_)))), fun (c1 : gs_in v (nI 1) (nI 60) = 0) => ?_⟩)
  · obtain ⟨c, rfl, h1, h2⟩ := gs_in_nat (by decide) c1 (by decide)
    rw [if_neg c1, nI_clamp (by omega)] at hk
    rw [sx_up_ne (a := 90) (i := 79) (by decide)]
    exact v_needed (d := d) h1 (by omega) hn hn10 htx hr hk 20 0 _ (by omega) ⟨gs_hold.start I, fun i hi => absurd hi (Nat.not_lt_zero i)⟩
  · have := hk I (gs_sd.rf I)
    rw [if_pos c1] at this
    exact this
end
