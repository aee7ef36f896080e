/-! ===== the class: the reader puts down signs; a piece ends ===== -/
def gy_n3 : List Nat → Nat
  | [] => 0
  | c :: S => (if c = 33 then 1 else 0) + gy_n3 S
theorem gy_pop_n3 (l : Nat) : ∀ (S : List Nat) (o : List (Nat × Nat)), gy_n3 (gy_pop l S o).1 ≤ gy_n3 S ∧ (gy_pop l S o).2.length + (gy_pop l S o).1.length = o.length + S.length
  | [], o => ⟨Nat.le_refl _, rfl⟩
  | c :: S, o => by
    have eS : (c :: S).length = S.length + 1 := rfl
    have e3 : gy_n3 (c :: S) = (if c = 33 then 1 else 0) + gy_n3 S := rfl
    by_cases h : c ≠ 40 ∧ l ≤ gy_tn c
    · have e : gy_pop l (c :: S) o = gy_pop l S ((2, c) :: o) := if_pos h
      have ih := gy_pop_n3 l S ((2, c) :: o)
      have eo : ((2, c) :: o).length = o.length + 1 := rfl
      rw [e, e3]
      refine ⟨by omega, by omega⟩
    · have e : gy_pop l (c :: S) o = (c :: S, o) := if_neg h
      rw [e]
      exact ⟨Nat.le_refl _, rfl⟩
theorem gy_eb_n3 : ∀ (S : List Nat) (o : List (Nat × Nat)) (b : Nat), gy_n3 S ≤ b → gy_n3 (gy_eb S o b).1 ≤ (gy_eb S o b).2.2 ∧ (gy_eb S o b).2.1.length + (gy_eb S o b).1.length = o.length + S.length ∧ (gy_eb S o b).2.2 ≤ b
  | [], o, b, h => ⟨h, rfl, Nat.le_refl b⟩
  | c :: S, o, b, h => by
    have eS : (c :: S).length = S.length + 1 := rfl
    by_cases hc : c = 33
    · have e : gy_eb (c :: S) o b = gy_eb S ((2, 33) :: o) (b - 1) := if_pos hc
      have e3 : gy_n3 (c :: S) = 1 + gy_n3 S := by show (if c = 33 then 1 else 0) + _ = _; rw [if_pos hc]
      have ih := gy_eb_n3 S ((2, 33) :: o) (b - 1) (by omega)
      have eo : ((2, 33) :: o).length = o.length + 1 := rfl
      rw [e]
      exact ⟨ih.1, by omega, by omega⟩
    · have e : gy_eb (c :: S) o b = (c :: S, o, b) := if_neg hc
      rw [e]
      exact ⟨h, rfl, Nat.le_refl b⟩
section
variable {d m : Nat} {I I0 : sx_I} {rw : Nat → Nat → Option Nat} {ln : Nat → Nat} {K : sx_K} {T : Nat → Nat} {n w br bg : Nat} {S : List Nat} {o : List (Nat × Nat)} {due : Bool} {cmp : Nat → Int32} {key : Int32}
theorem gy_rd.pop {c : Nat} {x : Int32} (h : gy_rd I0 key (c :: S) o w br bg due cmp I) (hx : x = nI S.length) : gy_rd I0 key S o w br bg due cmp (sx_up I 46 (upd (I 46) 5 x)) := by
  subst hx
  obtain ⟨g0, gk, g1, g3, g5, g6, g7, g8, g9, gs, go⟩ := h
  refine ⟨fun q hq => by rw [sx_up_ne (by omega)]; exact g0 q hq, ?_, ?_, ?_, ?_, ?_, ?_, ?_, ?_, ?_, ?_⟩
  · rw [sx_up_same, pk_un (by decide)]; exact gk
  · rw [sx_up_same, pk_un (by decide)]; exact g1
  · rw [sx_up_same, pk_un (by decide)]; exact g3
  · rw [sx_up_same, pk_us]
  · rw [sx_up_same, pk_un (by decide)]; exact g6
  · rw [sx_up_same, pk_un (by decide)]; exact g7
  · rw [sx_up_same, pk_un (by decide)]; exact g8
  · rw [sx_up_ne (by decide)]; exact g9
  · rw [sx_up_ne (by decide)]; exact gs.2.2
  · rw [sx_up_ne (by decide)]; exact go
theorem v1_putDownFrom {l : Nat} (hl : l ≤ 5) : ∀ (S : List Nat) (o : List (Nat × Nat)) (I : sx_I), gy_rd I0 key S o w br bg due cmp I → o.length + S.length ≤ 96 →
    (∀ J, gy_rd I0 key (gy_pop l S o).1 (gy_pop l S o).2 w br bg due cmp J → K none J (sx_run rw m ln)) → sx_V 48 (d + 2) 0 0 K 0 [(0, .ref 46), (1, .int (nI l))] [] I (sx_run rw m ln)
  | [], o, I, h, hb, hk => by
    have h5 := h.2.2.2.2.1
    refine sx_go m48 100 rfl (fun VV CC hV hC => ?_)
    refine ⟨fun _ => hk I h, fun c => absurd (show I 46 5 ≤ 0 from h5 ▸ (show nI 0 ≤ 0 by decide)) c⟩
  | c :: S, o, I, h, hb, hk => by
    have h5 := h.2.2.2.2.1
    have hs := h.2.2.2.2.2.2.2.2.2.1
    have eS : (c :: S).length = S.length + 1 := rfl
    rw [eS] at h5
    have ix : I 46 5 - nI 1 = nI S.length := by rw [h5, pk_sub (by omega)]; rfl
    have esb : I 48 S.length = gy_sb c := hs.1.trans (if_pos hs.2.1).symm
    have hc := hs.2.1
    have tn5 : gy_tn c ≤ 5 := by unfold gy_tn; split <;> (try split) <;> (try split) <;> (try split) <;> (try split) <;> omega
    refine sx_go m48 100 rfl (fun VV CC hV hC => ?_)
    refine ⟨fun (z : I 46 5 ≤ 0) => ?_, fun _ => ⟨S.length, ⟨ix, by omega⟩, fun (c40 : I 48 S.length = nI 40) => ?_, fun (c40 : ¬ I 48 S.length = nI 40) => ?_⟩⟩
    · rw [h5] at z
      exact absurd ((nI_leI (b := 0) (by omega) (by omega)).mp z) (by omega)
    · have e : gy_pop l (c :: S) o = (c :: S, o) := if_neg (fun z => z.1 ((gy_sb_eq c (by omega) 40 (by decide)).mp (esb ▸ c40)))
      rw [e] at hk
      exact hk I h
    · have n40 : c ≠ 40 := fun z => c40 (by rw [hs.1, z])
      refine ⟨S.length, ⟨ix, by omega⟩, hC _ _ _ _ _ (c1_tight (d := d) esb (by omega) ?_)⟩
      refine ⟨fun (ct : nI (gy_tn c) < nI l) => ?_, fun (ct : ¬ nI (gy_tn c) < nI l) => ?_⟩
      · rw [nI_ltI (by omega) (by omega)] at ct
        have e : gy_pop l (c :: S) o = (c :: S, o) := if_neg (fun z => by omega)
        rw [e] at hk
        exact hk I h
      · rw [nI_ltI (by omega) (by omega)] at ct
        have e : gy_pop l (c :: S) o = gy_pop l S ((2, c) :: o) := if_pos ⟨n40, by omega⟩
        rw [e] at hk
        have fin : ∀ J : sx_I, J = sx_up I 46 (upd (I 46) 5 (I 46 5 - nI 1)) → gy_rd I0 key S o w br bg due cmp J ∧ J 46 5 = nI S.length ∧ J 48 S.length = nI c := by
          intro J eJ
          have e48 : J 48 = I 48 := by rw [eJ]; exact sx_up_ne (by decide)
          refine ⟨eJ ▸ h.pop ix, ?_, by rw [e48]; exact hs.1⟩
          rw [eJ, sx_up_same, pk_us]; exact ix
        obtain ⟨f1, f2, f3⟩ := fin _ rfl
        refine ⟨S.length, ⟨f2, by omega⟩, hC _ _ _ _ _ (c1_putDown (d := d) (u := 2) (v := c) f1 (by omega) ?_ (fun J hJ => hV _ _ _ _ _ _ _ ?_))⟩
        · show -(_ : Int32) = -nI c
          rw [← f3]
        · have eo : ((2, c) :: o).length = o.length + 1 := rfl
          exact v1_putDownFrom hl S ((2, c) :: o) J hJ (by omega) hk
theorem c1_putDownFrom {l : Nat} {x : Int32} (hx : x = nI l) (hl : l ≤ 5) (h : gy_rd I0 key S o w br bg due cmp I) (hb : o.length + S.length ≤ 96) (hk : ∀ J, gy_rd I0 key (gy_pop l S o).1 (gy_pop l S o).2 w br bg due cmp J → K none J (sx_run rw m ln)) : sx_C 48 (d + 2) [.ref 46, .int x] I (sx_run rw m ln) K := by
  subst hx
  exact sx_enter (by decide +kernel) (Nat.le_of_ble_eq_true rfl) (v1_putDownFrom hl S o I h hb hk)
theorem v1_endPiece : ∀ (S : List Nat) (o : List (Nat × Nat)) (bg : Nat) (I : sx_I), gy_rd I0 key S o w br bg due cmp I → o.length + S.length ≤ 96 → gy_n3 S ≤ bg → bg ≤ 8 →
    (∀ J, gy_rd I0 key (gy_eb S o bg).1 (gy_eb S o bg).2.1 w br (gy_eb S o bg).2.2 false cmp J → K none J (sx_run rw m ln)) → sx_V 45 (d + 2) 0 0 K 0 [(0, .ref 46)] [] I (sx_run rw m ln)
  | [], o, bg, I, h, hb, h3, h8, hk => by
    have h5 := h.2.2.2.2.1
    have fin := hk _ (h.f46 (k := 8) (v := nI 0) (due' := false) (by omega) ((pk_un (by decide)).trans h.2.2.1) ((pk_un (by decide)).trans h.2.2.2.2.2.1) ((pk_un (by decide)).trans h.2.2.2.2.2.2.1) pk_us)
    refine sx_go m45 100 rfl (fun VV CC hV hC => ?_)
    refine ⟨fun _ => ⟨Or.inl rfl, fin⟩, fun c => absurd (show I 46 5 ≤ 0 from h5 ▸ (show nI 0 ≤ 0 by decide)) c⟩
  | c :: S, o, bg, I, h, hb, h3, h8, hk => by
    have h5 := h.2.2.2.2.1
    have hs := h.2.2.2.2.2.2.2.2.2.1
    have h7 := h.2.2.2.2.2.2.1
    have eS : (c :: S).length = S.length + 1 := rfl
    rw [eS] at h5
    have ix : I 46 5 - nI 1 = nI S.length := by rw [h5, pk_sub (by omega)]; rfl
    have hc := hs.2.1
    refine sx_go m45 100 rfl (fun VV CC hV hC => ?_)
    refine ⟨fun (z : I 46 5 ≤ 0) => ?_, fun _ => ⟨S.length, ⟨ix, by omega⟩, fun (c33 : ¬ I 48 S.length = nI 33) => ?_, fun (c33 : I 48 S.length = nI 33) => ?_⟩⟩
    · rw [h5] at z
      exact absurd ((nI_leI (b := 0) (by omega) (by omega)).mp z) (by omega)
    · have e : gy_eb (c :: S) o bg = (c :: S, o, bg) := if_neg (fun z => c33 (by rw [hs.1, z]))
      rw [e] at hk
      exact ⟨Or.inl rfl, hk _ (h.f46 (k := 8) (v := nI 0) (due' := false) (by omega) ((pk_un (by decide)).trans h.2.2.1) ((pk_un (by decide)).trans h.2.2.2.2.2.1) ((pk_un (by decide)).trans h.2.2.2.2.2.2.1) pk_us)⟩
    · have e33 : c = 33 := (nI_eq (by omega) (by omega)).mp (hs.1.symm.trans c33)
      have e : gy_eb (c :: S) o bg = gy_eb S ((2, 33) :: o) (bg - 1) := if_pos e33
      rw [e] at hk
      have e3 : gy_n3 (c :: S) = 1 + gy_n3 S := by show (if c = 33 then 1 else 0) + _ = _; rw [if_pos e33]
      have fin : ∀ J : sx_I, J = sx_up I 46 (upd (I 46) 5 (I 46 5 - nI 1)) → gy_rd I0 key S o w br (bg - 1) due cmp (sx_up J 46 (upd (J 46) 7 (J 46 7 - nI 1))) := by
        intro J eJ
        have p := eJ ▸ h.pop ix
        refine p.f46 (k := 7) (by omega) ((pk_un (by decide)).trans p.2.2.1) ((pk_un (by decide)).trans p.2.2.2.2.2.1) ?_ ((pk_un (by decide)).trans p.2.2.2.2.2.2.2.1)
        rw [pk_us, p.2.2.2.2.2.2.1, pk_sub (by omega)]
      refine hC _ _ _ _ _ (c1_putDown (d := d) (u := 2) (v := 33) (fin _ rfl) (by omega) ?_ (fun J hJ => hV _ _ _ _ _ _ _ ?_))
      · decide +kernel
      · have eo : ((2, 33) :: o).length = o.length + 1 := rfl
        exact v1_endPiece S ((2, 33) :: o) (bg - 1) J hJ (by omega) (by omega) (by omega) hk
theorem c1_endPiece (h : gy_rd I0 key S o w br bg due cmp I) (hb : o.length + S.length ≤ 96) (h3 : gy_n3 S ≤ bg) (h8 : bg ≤ 8) (hk : ∀ J, gy_rd I0 key (gy_eb S o bg).1 (gy_eb S o bg).2.1 w br (gy_eb S o bg).2.2 false cmp J → K none J (sx_run rw m ln)) : sx_C 45 (d + 2) [.ref 46] I (sx_run rw m ln) K :=
  sx_enter (by decide +kernel) (Nat.le_of_ble_eq_true rfl) (v1_endPiece S o bg I h hb h3 h8 hk)
theorem c1_takePiece {u v : Nat} {x : Int32} (hx : x = gy_cv u v) (h : gy_rd I0 key S o w br bg due cmp I) (hb : o.length + S.length < 96) (h3 : gy_n3 S ≤ bg) (h8 : bg ≤ 8) (hk : ∀ J, gy_rd I0 key (gy_eb S ((u, v) :: o) bg).1 (gy_eb S ((u, v) :: o) bg).2.1 (w + 1) br (gy_eb S ((u, v) :: o) bg).2.2 false cmp J → K none J (sx_run rw m ln)) : sx_C 42 (d + 3) [.ref 46, .int x] I (sx_run rw m ln) K := by
  refine sx_enter (by decide +kernel) (Nat.le_of_ble_eq_true rfl) (sx_go m42 100 rfl (fun VV CC hV hC => ?_))
  have eo : ((u, v) :: o).length = o.length + 1 := rfl
  have f1 : gy_rd I0 key S o (w + 1) br bg due cmp (sx_up I 46 (upd (I 46) 1 (I 46 1 + nI 1))) := h.f46 (k := 1) (by omega) (by rw [pk_us, h.2.2.1, nI_add]) ((pk_un (by decide)).trans h.2.2.2.2.2.1) ((pk_un (by decide)).trans h.2.2.2.2.2.2.1) ((pk_un (by decide)).trans h.2.2.2.2.2.2.2.1)
  refine hC _ _ _ _ _ (c1_putDown (d := d + 1) f1 (by omega) hx (fun J hJ => ?_))
  exact hC _ _ _ _ _ (c1_endPiece (d := d) hJ (by omega) h3 h8 (fun J2 h2 => hk J2 h2))
end
