/-! ===== the class: a name taken ===== -/
section
variable {d m : Nat} {I I0 : sx_I} {rw : Nat → Nat → Option Nat} {ln : Nat → Nat} {K : sx_K} {T : Nat → Nat} {n w br bg : Nat} {S : List Nat} {o : List (Nat × Nat)} {due : Bool} {cmp : Nat → Int32} {key : Int32}
theorem c1_takesName {v : Nat} {x : Int32} (hx : x = nI v) (hv : v < 128) (hkey : key = 0 ∨ key = nI 1 ∨ key = nI 2)
    (h : gy_rd I0 key S o w br bg due cmp I) (hb : o.length + S.length < 96) (h3 : gy_n3 S ≤ bg) (h8 : bg ≤ 8)
    (h0 : ¬ gy_nm key v = true → K (some (.int (nI 0))) I (sx_run rw m ln))
    (h1 : gy_nm key v = true → ∀ J, gy_rd I0 key (gy_eb S ((1, v) :: o) bg).1 (gy_eb S ((1, v) :: o) bg).2.1 (w + 1) br (gy_eb S ((1, v) :: o) bg).2.2 false cmp J → K (some (.int (nI 1))) J (sx_run rw m ln)) :
    sx_C 41 (d + 5) [.ref 46, .int x] I (sx_run rw m ln) K := by
  subst hx
  have hk := h.2.1
  have i2c : ∀ v, v < 128 → ((nI v).toUInt32 % 65536).toInt32 = nI v := by decide +kernel
  have go : gy_nm key v = true → ∀ y : Int32, y = gb_nm v → ∀ K2, (∀ J, gy_rd I0 key (gy_eb S ((1, v) :: o) bg).1 (gy_eb S ((1, v) :: o) bg).2.1 (w + 1) br (gy_eb S ((1, v) :: o) bg).2.2 false cmp J → K2 none J (sx_run rw m ln)) → sx_C 42 (d + 1 + 3) [.ref 46, .int y] I (sx_run rw m ln) K2 := fun _ y hy K2 q =>
    c1_takePiece (u := 1) (v := v) (d := d + 1) (by rw [hy]; rfl) h hb h3 h8 q
  have q1 : nI 1 ≠ 0 := by decide
  have q2 : nI 2 ≠ 0 := by decide
  have q3 : nI 2 ≠ nI 1 := by decide
  refine sx_enter (by decide +kernel) (Nat.le_of_ble_eq_true rfl) (sx_go m41 100 rfl (fun VV CC hV hC => ?_))
  rcases hkey with e | e | e
  · subst e
    have hh : gy_nm 0 v = true ↔ (v = 119 ∨ v = 100 ∨ v = 112) := by
      rw [gy_nm_iff]; unfold gs_nmok
      exact ⟨fun z => z.elim (fun z => z.2) (fun z => z.elim (fun z => absurd z.1.symm q1) (fun z => absurd z.1.symm q2)), fun z => Or.inl ⟨rfl, z⟩⟩
    refine ⟨fun z => absurd hk z, fun _ => ?_⟩
    refine hC _ _ _ _ _ (c_ix_5 (d := d) (i2c v hv) hv (fun j hj ej hn => ?_) (fun a => ?_))
    · refine ⟨fun _ => ?_, fun z => absurd ((nI_leI (a := 0) (by omega) (by omega)).mpr (Nat.zero_le j)) z⟩
      have : j = 0 ∨ j = 1 ∨ j = 2 := by omega
      rcases this with z | z | z <;> subst z
      · have ev : v = 119 := ej
        have nm := hh.mpr (Or.inl ev)
        exact hC _ _ _ _ _ (go nm _ (by rw [ev]; decide +kernel) _ (fun J hJ => ⟨Or.inr rfl, h1 nm J hJ⟩))
      · have ev : v = 100 := ej
        have nm := hh.mpr (Or.inr (Or.inl ev))
        exact hC _ _ _ _ _ (go nm _ (by rw [ev]; decide +kernel) _ (fun J hJ => ⟨Or.inr rfl, h1 nm J hJ⟩))
      · have ev : v = 112 := ej
        have nm := hh.mpr (Or.inr (Or.inr ev))
        exact hC _ _ _ _ _ (go nm _ (by rw [ev]; decide +kernel) _ (fun J hJ => ⟨Or.inr rfl, h1 nm J hJ⟩))
    · refine ⟨fun z => absurd (show (0 : Int32) ≤ -1 from z) (by decide), fun _ => ⟨Or.inl rfl, h0 (fun z => ?_)⟩⟩
      rcases hh.mp z with y | y | y
      · exact a 0 (by decide) y
      · exact a 1 (by decide) y
      · exact a 2 (by decide) y
  · subst e
    have hh : gy_nm (nI 1) v = true ↔ (v = 104 ∨ v = 108) := by
      rw [gy_nm_iff]; unfold gs_nmok
      exact ⟨fun z => z.elim (fun z => absurd z.1 q1) (fun z => z.elim (fun z => z.2) (fun z => absurd z.1.symm q3)), fun z => Or.inr (Or.inl ⟨rfl, z⟩)⟩
    refine ⟨fun _ => ⟨fun z => absurd hk z, fun _ => ?_⟩, fun z => absurd (hk.symm.trans z) q1⟩
    refine hC _ _ _ _ _ (c_ix_6 (d := d) (i2c v hv) hv (fun j hj ej hn => ?_) (fun a => ?_))
    · refine ⟨fun _ => ?_, fun z => absurd ((nI_leI (a := 0) (by omega) (by omega)).mpr (Nat.zero_le j)) z⟩
      have : j = 0 ∨ j = 1 := by omega
      rcases this with z | z <;> subst z
      · have ev : v = 104 := ej
        have nm := hh.mpr (Or.inl ev)
        exact hC _ _ _ _ _ (go nm _ (by rw [ev]; decide +kernel) _ (fun J hJ => ⟨Or.inr rfl, h1 nm J hJ⟩))
      · have ev : v = 108 := ej
        have nm := hh.mpr (Or.inr ev)
        exact hC _ _ _ _ _ (go nm _ (by rw [ev]; decide +kernel) _ (fun J hJ => ⟨Or.inr rfl, h1 nm J hJ⟩))
    · refine ⟨fun z => absurd (show (0 : Int32) ≤ -1 from z) (by decide), fun _ => ⟨Or.inl rfl, h0 (fun z => ?_)⟩⟩
      rcases hh.mp z with y | y
      · exact a 0 (by decide) y
      · exact a 1 (by decide) y
  · subst e
    have hh : gy_nm (nI 2) v = true ↔ (v = 119 ∨ v = 100) := by
      rw [gy_nm_iff]; unfold gs_nmok
      exact ⟨fun z => z.elim (fun z => absurd z.1 q2) (fun z => z.elim (fun z => absurd z.1 q3) (fun z => z.2)), fun z => Or.inr (Or.inr ⟨rfl, z⟩)⟩
    refine ⟨fun _ => ⟨fun _ => ?_, fun z => absurd (hk.symm.trans z) q3⟩, fun z => absurd (hk.symm.trans z) q2⟩
    refine hC _ _ _ _ _ (c_ix_7 (d := d) (i2c v hv) hv (fun j hj ej hn => ?_) (fun a => ?_))
    · refine ⟨fun _ => ?_, fun z => absurd ((nI_leI (a := 0) (by omega) (by omega)).mpr (Nat.zero_le j)) z⟩
      have : j = 0 ∨ j = 1 := by omega
      rcases this with z | z <;> subst z
      · have ev : v = 119 := ej
        have nm := hh.mpr (Or.inl ev)
        exact hC _ _ _ _ _ (go nm _ (by rw [ev]; decide +kernel) _ (fun J hJ => ⟨Or.inr rfl, h1 nm J hJ⟩))
      · have ev : v = 100 := ej
        have nm := hh.mpr (Or.inr ev)
        exact hC _ _ _ _ _ (go nm _ (by rw [ev]; decide +kernel) _ (fun J hJ => ⟨Or.inr rfl, h1 nm J hJ⟩))
    · refine ⟨fun z => absurd (show (0 : Int32) ≤ -1 from z) (by decide), fun _ => ⟨Or.inl rfl, h0 (fun z => ?_)⟩⟩
      rcases hh.mp z with y | y
      · exact a 0 (by decide) y
      · exact a 1 (by decide) y
end
