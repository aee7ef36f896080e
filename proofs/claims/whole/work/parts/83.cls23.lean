/-! ===== the class: names ===== -/
section
variable {d m : Nat} {I I0 : sx_I} {rw : Nat → Nat → Option Nat} {ln : Nat → Nat} {K : sx_K} {T : Nat → Nat} {n w br bg : Nat} {S : List Nat} {o : List (Nat × Nat)} {due : Bool} {cmp : Nat → Int32} {key : Int32}
theorem c_coder_5 (hk : K (some (.int (nI 0))) I (sx_run rw m ln)) : sx_C 219 (d + 1) [.ref 5] I (sx_run rw m ln) K := by
  refine sx_enter (by decide +kernel) (Nat.le_of_ble_eq_true rfl) (sx_go m219 60 rfl (fun VV CC hV hC => ?_))
  refine ⟨fun (z : nI 1 = 0) => absurd z (by decide), fun _ => ?_⟩
  exact ⟨rfl, hk⟩
theorem c_latin_5 (hk : K (some (.int (nI 1))) I (sx_run rw m ln)) : sx_C 220 (d + 1) [.ref 5] I (sx_run rw m ln) K := by
  refine sx_enter (by decide +kernel) (Nat.le_of_ble_eq_true rfl) (sx_go m220 60 rfl (fun VV CC hV hC => ?_))
  refine ⟨fun (z : nI 1 = 0) => absurd z (by decide), fun _ => ⟨fun z => absurd rfl z, fun _ => ⟨Or.inr rfl, hk⟩⟩⟩
theorem c_len_5 (hk : K (some (.int (nI 3))) I (sx_run rw m ln)) : sx_C 215 (d + 2) [.ref 5] I (sx_run rw m ln) K := by
  refine sx_enter (by decide +kernel) (Nat.le_of_ble_eq_true rfl) (sx_go m215 60 rfl (fun VV CC hV hC => ?_))
  exact hC _ _ _ _ _ (c_coder_5 (sx_kk (by decide +kernel) hk))
theorem v_ix_5 {v : Nat} (hv : v < 128) (h1 : ∀ j, j < 3 → v = gy_wb 5 j → (∀ i, i < j → v ≠ gy_wb 5 i) → K (some (.int (nI j))) I (sx_run rw m ln)) (h0 : (∀ j, j < 3 → v ≠ gy_wb 5 j) → K (some (.int (-1))) I (sx_run rw m ln)) :
    ∀ (r k : Nat), k + r = 3 → (∀ i, i < k → v ≠ gy_wb 5 i) → sx_V 225 (d + 1) 0 0 K 7 [(0, .ref (11)), (3, .int (nI 3)), (4, .int (nI v)), (5, .int (nI k))] [] I (sx_run rw m ln)
  | r, k, hkr, hs => by
    have er : ∀ i, i < 3 → sx_rom (11) i = nI (gy_wb 5 i) := by decide +kernel
    have wl : ∀ i, i < 3 → gy_wb 5 i < 128 := by decide
    refine sx_go m225 100 rfl (fun VV CC hV hC => ?_)
    refine ⟨fun (c : nI 3 ≤ nI k) => ?_, fun (c : ¬ nI 3 ≤ nI k) => ?_⟩
    · rw [nI_leI (by omega) (by omega)] at c
      exact h0 (fun j hj => hs j (by omega))
    · rw [nI_leI (by omega) (by omega)] at c
      obtain ⟨r', er'⟩ : ∃ r', r = r' + 1 := ⟨r - 1, by omega⟩
      subst er'
      have eq : sx_rom (11) k = nI v ↔ v = gy_wb 5 k := by
        rw [er k (by omega)]
        exact (nI_eq (by have := wl k (by omega); omega) (by omega)).trans ⟨fun z => z.symm, fun z => z.symm⟩
      refine ⟨k, ⟨rfl, by omega⟩, fun (z : ¬ sx_rom (11) k = nI v) => ?_, fun (z : sx_rom (11) k = nI v) => h1 k (by omega) (eq.mp z) hs⟩
      have := v_ix_5 hv h1 h0 r' (k + 1) (by omega) (fun i hi => by
        by_cases ek : i = k
        · rw [ek]; exact fun y => z (eq.mpr y)
        · exact hs i (by omega))
      rw [nI_succ k] at this
      exact hV _ _ _ _ _ _ _ this
theorem c_ix_5 {v : Nat} {x : Int32} (hx : x = nI v) (hv : v < 128) (h1 : ∀ j, j < 3 → v = gy_wb 5 j → (∀ i, i < j → v ≠ gy_wb 5 i) → K (some (.int (nI j))) I (sx_run rw m ln)) (h0 : (∀ j, j < 3 → v ≠ gy_wb 5 j) → K (some (.int (-1))) I (sx_run rw m ln)) : sx_C 217 (d + 4) [.ref 5, .int x] I (sx_run rw m ln) K := by
  subst hx
  have i2b : ∀ v, v < 128 → (nI v).toInt8.toInt32 = nI v := by decide +kernel
  refine sx_enter (by decide +kernel) (Nat.le_of_ble_eq_true rfl) (sx_go m217 60 rfl (fun VV CC hV hC => ?_))
  refine hC _ _ _ _ _ (sx_enter (by decide +kernel) (Nat.le_of_ble_eq_true rfl) (sx_go m218 60 rfl (fun VV CC hV hC => ?_)))
  refine hC _ _ _ _ _ (c_latin_5 (d := d + 1) ⟨fun (z : nI 1 = 0) => absurd z (by decide), fun _ => ?_⟩)
  refine hC _ _ _ _ _ (c_len_5 (d := d) ?_)
  refine hC _ _ _ _ _ (sx_enter (by decide +kernel) (Nat.le_of_ble_eq_true rfl) (sx_go m224 60 rfl (fun VV CC hV hC => ?_)))
  refine hC _ _ _ _ _ (sx_enter (by decide +kernel) (Nat.le_of_ble_eq_true rfl) (sx_go m223 60 rfl (fun VV2 CC2 hV2 hC2 => ?_)))
  refine ⟨fun z => absurd ((nI_ltI (b := 0) (by omega) (by omega)).mp z) (by omega), fun _ => ⟨fun z => absurd (show nI 255 < nI v from z) (nI_nlt (by omega) (by omega)), fun _ => ⟨Or.inr rfl, ?_⟩⟩⟩
  refine ⟨fun _ => ?_, fun (z : nI 1 = 0) => absurd z (by decide)⟩
  have emx : gs_max (nI 0) (nI 0) = nI 0 := by decide +kernel
  have emn : gs_min (nI 3) (nI 3) = nI 3 := by decide +kernel
  refine hC _ _ _ _ _ (c_max (d := d) (a := nI 0) (b := nI 0) ?_)
  rw [emx]
  refine hC _ _ _ _ _ (c_min (d := d) (a := nI 3) (b := nI 3) ?_)
  rw [emn]
  refine ⟨fun _ => ?_, fun z => absurd (show nI 0 < nI 3 by decide) z⟩
  refine hC _ _ _ _ _ (sx_enter (by decide +kernel) (Nat.le_of_ble_eq_true rfl) (sx_go m225 60 rfl (fun VV3 CC3 hV3 hC3 => hV3 _ _ _ _ _ _ _ ?_)))
  rw [i2b v hv]
  refine v_ix_5 hv (fun j a b c => ?_) (fun a => ?_) 3 0 (by omega) (fun i hi => absurd hi (Nat.not_lt_zero i))
  · exact h1 j a b c
  · exact h0 a
theorem c_coder_6 (hk : K (some (.int (nI 0))) I (sx_run rw m ln)) : sx_C 219 (d + 1) [.ref 6] I (sx_run rw m ln) K := by
  refine sx_enter (by decide +kernel) (Nat.le_of_ble_eq_true rfl) (sx_go m219 60 rfl (fun VV CC hV hC => ?_))
  refine ⟨fun (z : nI 1 = 0) => absurd z (by decide), fun _ => ?_⟩
  exact ⟨rfl, hk⟩
theorem c_latin_6 (hk : K (some (.int (nI 1))) I (sx_run rw m ln)) : sx_C 220 (d + 1) [.ref 6] I (sx_run rw m ln) K := by
  refine sx_enter (by decide +kernel) (Nat.le_of_ble_eq_true rfl) (sx_go m220 60 rfl (fun VV CC hV hC => ?_))
  refine ⟨fun (z : nI 1 = 0) => absurd z (by decide), fun _ => ⟨fun z => absurd rfl z, fun _ => ⟨Or.inr rfl, hk⟩⟩⟩
theorem c_len_6 (hk : K (some (.int (nI 2))) I (sx_run rw m ln)) : sx_C 215 (d + 2) [.ref 6] I (sx_run rw m ln) K := by
  refine sx_enter (by decide +kernel) (Nat.le_of_ble_eq_true rfl) (sx_go m215 60 rfl (fun VV CC hV hC => ?_))
  exact hC _ _ _ _ _ (c_coder_6 (sx_kk (by decide +kernel) hk))
theorem v_ix_6 {v : Nat} (hv : v < 128) (h1 : ∀ j, j < 2 → v = gy_wb 6 j → (∀ i, i < j → v ≠ gy_wb 6 i) → K (some (.int (nI j))) I (sx_run rw m ln)) (h0 : (∀ j, j < 2 → v ≠ gy_wb 6 j) → K (some (.int (-1))) I (sx_run rw m ln)) :
    ∀ (r k : Nat), k + r = 2 → (∀ i, i < k → v ≠ gy_wb 6 i) → sx_V 225 (d + 1) 0 0 K 7 [(0, .ref (12)), (3, .int (nI 2)), (4, .int (nI v)), (5, .int (nI k))] [] I (sx_run rw m ln)
  | r, k, hkr, hs => by
    have er : ∀ i, i < 2 → sx_rom (12) i = nI (gy_wb 6 i) := by decide +kernel
    have wl : ∀ i, i < 2 → gy_wb 6 i < 128 := by decide
    refine sx_go m225 100 rfl (fun VV CC hV hC => ?_)
    refine ⟨fun (c : nI 2 ≤ nI k) => ?_, fun (c : ¬ nI 2 ≤ nI k) => ?_⟩
    · rw [nI_leI (by omega) (by omega)] at c
      exact h0 (fun j hj => hs j (by omega))
    · rw [nI_leI (by omega) (by omega)] at c
      obtain ⟨r', er'⟩ : ∃ r', r = r' + 1 := ⟨r - 1, by omega⟩
      subst er'
      have eq : sx_rom (12) k = nI v ↔ v = gy_wb 6 k := by
        rw [er k (by omega)]
        exact (nI_eq (by have := wl k (by omega); omega) (by omega)).trans ⟨fun z => z.symm, fun z => z.symm⟩
      refine ⟨k, ⟨rfl, by omega⟩, fun (z : ¬ sx_rom (12) k = nI v) => ?_, fun (z : sx_rom (12) k = nI v) => h1 k (by omega) (eq.mp z) hs⟩
      have := v_ix_6 hv h1 h0 r' (k + 1) (by omega) (fun i hi => by
        by_cases ek : i = k
        · rw [ek]; exact fun y => z (eq.mpr y)
        · exact hs i (by omega))
      rw [nI_succ k] at this
      exact hV _ _ _ _ _ _ _ this
theorem c_ix_6 {v : Nat} {x : Int32} (hx : x = nI v) (hv : v < 128) (h1 : ∀ j, j < 2 → v = gy_wb 6 j → (∀ i, i < j → v ≠ gy_wb 6 i) → K (some (.int (nI j))) I (sx_run rw m ln)) (h0 : (∀ j, j < 2 → v ≠ gy_wb 6 j) → K (some (.int (-1))) I (sx_run rw m ln)) : sx_C 217 (d + 4) [.ref 6, .int x] I (sx_run rw m ln) K := by
  subst hx
  have i2b : ∀ v, v < 128 → (nI v).toInt8.toInt32 = nI v := by decide +kernel
  refine sx_enter (by decide +kernel) (Nat.le_of_ble_eq_true rfl) (sx_go m217 60 rfl (fun VV CC hV hC => ?_))
  refine hC _ _ _ _ _ (sx_enter (by decide +kernel) (Nat.le_of_ble_eq_true rfl) (sx_go m218 60 rfl (fun VV CC hV hC => ?_)))
  refine hC _ _ _ _ _ (c_latin_6 (d := d + 1) ⟨fun (z : nI 1 = 0) => absurd z (by decide), fun _ => ?_⟩)
  refine hC _ _ _ _ _ (c_len_6 (d := d) ?_)
  refine hC _ _ _ _ _ (sx_enter (by decide +kernel) (Nat.le_of_ble_eq_true rfl) (sx_go m224 60 rfl (fun VV CC hV hC => ?_)))
  refine hC _ _ _ _ _ (sx_enter (by decide +kernel) (Nat.le_of_ble_eq_true rfl) (sx_go m223 60 rfl (fun VV2 CC2 hV2 hC2 => ?_)))
  refine ⟨fun z => absurd ((nI_ltI (b := 0) (by omega) (by omega)).mp z) (by omega), fun _ => ⟨fun z => absurd (show nI 255 < nI v from z) (nI_nlt (by omega) (by omega)), fun _ => ⟨Or.inr rfl, ?_⟩⟩⟩
  refine ⟨fun _ => ?_, fun (z : nI 1 = 0) => absurd z (by decide)⟩
  have emx : gs_max (nI 0) (nI 0) = nI 0 := by decide +kernel
  have emn : gs_min (nI 2) (nI 2) = nI 2 := by decide +kernel
  refine hC _ _ _ _ _ (c_max (d := d) (a := nI 0) (b := nI 0) ?_)
  rw [emx]
  refine hC _ _ _ _ _ (c_min (d := d) (a := nI 2) (b := nI 2) ?_)
  rw [emn]
  refine ⟨fun _ => ?_, fun z => absurd (show nI 0 < nI 2 by decide) z⟩
  refine hC _ _ _ _ _ (sx_enter (by decide +kernel) (Nat.le_of_ble_eq_true rfl) (sx_go m225 60 rfl (fun VV3 CC3 hV3 hC3 => hV3 _ _ _ _ _ _ _ ?_)))
  rw [i2b v hv]
  refine v_ix_6 hv (fun j a b c => ?_) (fun a => ?_) 2 0 (by omega) (fun i hi => absurd hi (Nat.not_lt_zero i))
  · exact h1 j a b c
  · exact h0 a
theorem c_coder_7 (hk : K (some (.int (nI 0))) I (sx_run rw m ln)) : sx_C 219 (d + 1) [.ref 7] I (sx_run rw m ln) K := by
  refine sx_enter (by decide +kernel) (Nat.le_of_ble_eq_true rfl) (sx_go m219 60 rfl (fun VV CC hV hC => ?_))
  refine ⟨fun (z : nI 1 = 0) => absurd z (by decide), fun _ => ?_⟩
  exact ⟨rfl, hk⟩
theorem c_latin_7 (hk : K (some (.int (nI 1))) I (sx_run rw m ln)) : sx_C 220 (d + 1) [.ref 7] I (sx_run rw m ln) K := by
  refine sx_enter (by decide +kernel) (Nat.le_of_ble_eq_true rfl) (sx_go m220 60 rfl (fun VV CC hV hC => ?_))
  refine ⟨fun (z : nI 1 = 0) => absurd z (by decide), fun _ => ⟨fun z => absurd rfl z, fun _ => ⟨Or.inr rfl, hk⟩⟩⟩
theorem c_len_7 (hk : K (some (.int (nI 2))) I (sx_run rw m ln)) : sx_C 215 (d + 2) [.ref 7] I (sx_run rw m ln) K := by
  refine sx_enter (by decide +kernel) (Nat.le_of_ble_eq_true rfl) (sx_go m215 60 rfl (fun VV CC hV hC => ?_))
  exact hC _ _ _ _ _ (c_coder_7 (sx_kk (by decide +kernel) hk))
theorem v_ix_7 {v : Nat} (hv : v < 128) (h1 : ∀ j, j < 2 → v = gy_wb 7 j → (∀ i, i < j → v ≠ gy_wb 7 i) → K (some (.int (nI j))) I (sx_run rw m ln)) (h0 : (∀ j, j < 2 → v ≠ gy_wb 7 j) → K (some (.int (-1))) I (sx_run rw m ln)) :
    ∀ (r k : Nat), k + r = 2 → (∀ i, i < k → v ≠ gy_wb 7 i) → sx_V 225 (d + 1) 0 0 K 7 [(0, .ref (13)), (3, .int (nI 2)), (4, .int (nI v)), (5, .int (nI k))] [] I (sx_run rw m ln)
  | r, k, hkr, hs => by
    have er : ∀ i, i < 2 → sx_rom (13) i = nI (gy_wb 7 i) := by decide +kernel
    have wl : ∀ i, i < 2 → gy_wb 7 i < 128 := by decide
    refine sx_go m225 100 rfl (fun VV CC hV hC => ?_)
    refine ⟨fun (c : nI 2 ≤ nI k) => ?_, fun (c : ¬ nI 2 ≤ nI k) => ?_⟩
    · rw [nI_leI (by omega) (by omega)] at c
      exact h0 (fun j hj => hs j (by omega))
    · rw [nI_leI (by omega) (by omega)] at c
      obtain ⟨r', er'⟩ : ∃ r', r = r' + 1 := ⟨r - 1, by omega⟩
      subst er'
      have eq : sx_rom (13) k = nI v ↔ v = gy_wb 7 k := by
        rw [er k (by omega)]
        exact (nI_eq (by have := wl k (by omega); omega) (by omega)).trans ⟨fun z => z.symm, fun z => z.symm⟩
      refine ⟨k, ⟨rfl, by omega⟩, fun (z : ¬ sx_rom (13) k = nI v) => ?_, fun (z : sx_rom (13) k = nI v) => h1 k (by omega) (eq.mp z) hs⟩
      have := v_ix_7 hv h1 h0 r' (k + 1) (by omega) (fun i hi => by
        by_cases ek : i = k
        · rw [ek]; exact fun y => z (eq.mpr y)
        · exact hs i (by omega))
      rw [nI_succ k] at this
      exact hV _ _ _ _ _ _ _ this
theorem c_ix_7 {v : Nat} {x : Int32} (hx : x = nI v) (hv : v < 128) (h1 : ∀ j, j < 2 → v = gy_wb 7 j → (∀ i, i < j → v ≠ gy_wb 7 i) → K (some (.int (nI j))) I (sx_run rw m ln)) (h0 : (∀ j, j < 2 → v ≠ gy_wb 7 j) → K (some (.int (-1))) I (sx_run rw m ln)) : sx_C 217 (d + 4) [.ref 7, .int x] I (sx_run rw m ln) K := by
  subst hx
  have i2b : ∀ v, v < 128 → (nI v).toInt8.toInt32 = nI v := by decide +kernel
  refine sx_enter (by decide +kernel) (Nat.le_of_ble_eq_true rfl) (sx_go m217 60 rfl (fun VV CC hV hC => ?_))
  refine hC _ _ _ _ _ (sx_enter (by decide +kernel) (Nat.le_of_ble_eq_true rfl) (sx_go m218 60 rfl (fun VV CC hV hC => ?_)))
  refine hC _ _ _ _ _ (c_latin_7 (d := d + 1) ⟨fun (z : nI 1 = 0) => absurd z (by decide), fun _ => ?_⟩)
  refine hC _ _ _ _ _ (c_len_7 (d := d) ?_)
  refine hC _ _ _ _ _ (sx_enter (by decide +kernel) (Nat.le_of_ble_eq_true rfl) (sx_go m224 60 rfl (fun VV CC hV hC => ?_)))
  refine hC _ _ _ _ _ (sx_enter (by decide +kernel) (Nat.le_of_ble_eq_true rfl) (sx_go m223 60 rfl (fun VV2 CC2 hV2 hC2 => ?_)))
  refine ⟨fun z => absurd ((nI_ltI (b := 0) (by omega) (by omega)).mp z) (by omega), fun _ => ⟨fun z => absurd (show nI 255 < nI v from z) (nI_nlt (by omega) (by omega)), fun _ => ⟨Or.inr rfl, ?_⟩⟩⟩
  refine ⟨fun _ => ?_, fun (z : nI 1 = 0) => absurd z (by decide)⟩
  have emx : gs_max (nI 0) (nI 0) = nI 0 := by decide +kernel
  have emn : gs_min (nI 2) (nI 2) = nI 2 := by decide +kernel
  refine hC _ _ _ _ _ (c_max (d := d) (a := nI 0) (b := nI 0) ?_)
  rw [emx]
  refine hC _ _ _ _ _ (c_min (d := d) (a := nI 2) (b := nI 2) ?_)
  rw [emn]
  refine ⟨fun _ => ?_, fun z => absurd (show nI 0 < nI 2 by decide) z⟩
  refine hC _ _ _ _ _ (sx_enter (by decide +kernel) (Nat.le_of_ble_eq_true rfl) (sx_go m225 60 rfl (fun VV3 CC3 hV3 hC3 => hV3 _ _ _ _ _ _ _ ?_)))
  rw [i2b v hv]
  refine v_ix_7 hv (fun j a b c => ?_) (fun a => ?_) 2 0 (by omega) (fun i hi => absurd hi (Nat.not_lt_zero i))
  · exact h1 j a b c
  · exact h0 a
end
