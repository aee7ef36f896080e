/-! ===== the class: the reader opens, closes, joins ===== -/
section
variable {d m : Nat} {I I0 : sx_I} {rw : Nat → Nat → Option Nat} {ln : Nat → Nat} {K : sx_K} {T : Nat → Nat} {n w br bg : Nat} {S : List Nat} {o : List (Nat × Nat)} {due : Bool} {cmp : Nat → Int32} {key : Int32}
theorem gy_rd.cmp9 (h : gy_rd I0 key S o w br bg due cmp I) {c2 : Nat → Int32} : gy_rd I0 key S o w br bg due c2 (sx_up I 49 c2) := by
  obtain ⟨g0, gk, g1, g3, g5, g6, g7, g8, g9, gs, go⟩ := h
  refine ⟨fun q hq => by rw [sx_up_ne (by omega)]; exact g0 q hq, ?_, ?_, ?_, ?_, ?_, ?_, ?_, ?_, ?_, ?_⟩
  · rw [sx_up_ne (by decide)]; exact gk
  · rw [sx_up_ne (by decide)]; exact g1
  · rw [sx_up_ne (by decide)]; exact g3
  · rw [sx_up_ne (by decide)]; exact g5
  · rw [sx_up_ne (by decide)]; exact g6
  · rw [sx_up_ne (by decide)]; exact g7
  · rw [sx_up_ne (by decide)]; exact g8
  · rw [sx_up_same]
  · rw [sx_up_ne (by decide)]; exact gs
  · rw [sx_up_ne (by decide)]; exact go
theorem c1_opens {v : Nat} {x : Int32} (hx : x = gy_sb v) (hv : v < 256) (h : gy_rd I0 key S o w br bg due cmp I) (hS : S.length < 96) (hbr : br ≤ 8) (hbg : bg ≤ 8)
    (h1 : v = 33 → bg < 8 → ∀ J, gy_rd I0 key (33 :: S) o w br (bg + 1) due cmp J → K (some (.int (nI 1))) J (sx_run rw m ln))
    (h2 : v = 40 → br < 8 → ∀ J, gy_rd I0 key (40 :: S) o w (br + 1) bg due (upd cmp (br + 1) 0) J → K (some (.int (nI 1))) J (sx_run rw m ln))
    (h0 : ¬ (v = 33 ∧ bg < 8) → ¬ (v = 40 ∧ br < 8) → K (some (.int (nI 0))) I (sx_run rw m ln)) : sx_C 43 (d + 2) [.ref 46, .int x] I (sx_run rw m ln) K := by
  subst hx
  have q33 := gy_sb_eq v hv 33 (by decide)
  have q40 := gy_sb_eq v hv 40 (by decide)
  have h6 := h.2.2.2.2.2.1
  have h7 := h.2.2.2.2.2.2.1
  have h9 := h.2.2.2.2.2.2.2.2.1
  have l7 : nI 8 ≤ I 46 7 ↔ 8 ≤ bg := by rw [h7]; exact nI_leI (by omega) (by omega)
  have l6 : nI 8 ≤ I 46 6 ↔ 8 ≤ br := by rw [h6]; exact nI_leI (by omega) (by omega)
  have f7 : gy_rd I0 key S o w br (bg + 1) due cmp (sx_up I 46 (upd (I 46) 7 (I 46 7 + nI 1))) := h.f46 (k := 7) (by omega) ((pk_un (by decide)).trans h.2.2.1) ((pk_un (by decide)).trans h6) (by rw [pk_us, h7, nI_add]) ((pk_un (by decide)).trans h.2.2.2.2.2.2.2.1)
  have f6 : gy_rd I0 key S o w (br + 1) bg due cmp (sx_up I 46 (upd (I 46) 6 (I 46 6 + nI 1))) := h.f46 (k := 6) (by omega) ((pk_un (by decide)).trans h.2.2.1) (by rw [pk_us, h6, nI_add]) ((pk_un (by decide)).trans h7) ((pk_un (by decide)).trans h.2.2.2.2.2.2.2.1)
  have g40 : (gy_sb v = nI 40 → ¬ nI 8 ≤ I 46 6 → v = 40 ∧ br < 8) := fun a b => ⟨q40.mp a, Nat.lt_of_not_le (fun z => b (l6.mpr z))⟩
  refine sx_enter (by decide +kernel) (Nat.le_of_ble_eq_true rfl) (sx_go m43 100 rfl (fun VV CC hV hC => ?_))
  have op : v = 40 → br < 8 → ∀ J : sx_I, J = sx_up I 46 (upd (I 46) 6 (I 46 6 + nI 1)) → J 46 6 = nI (br + 1) ∧ gy_rd I0 key S o w (br + 1) bg due (upd cmp (br + 1) 0) (sx_up J 49 (upd (J 49) (br + 1) 0)) := by
    intro a b J e
    have f := e ▸ f6
    exact ⟨f.2.2.2.2.2.1, by rw [f.2.2.2.2.2.2.2.2.1]; exact f.cmp9⟩
  have tail : ¬ (v = 33 ∧ bg < 8) → (¬ gy_sb v = nI 40 → K (some (.int (nI 0))) I (sx_run rw m ln)) ∧ (gy_sb v = nI 40 → nI 8 ≤ I 46 6 → K (some (.int (nI 0))) I (sx_run rw m ln)) := fun z => ⟨fun a => h0 z (fun y => a (q40.mpr y.1)), fun a b => h0 z (fun y => by have := l6.mp b; omega)⟩
  refine ⟨fun c1 => ⟨fun c2 => ⟨Or.inl rfl, (tail (fun y => c1 (q33.mpr y.1))).1 c2⟩, fun c2 => ⟨fun c3 => ⟨Or.inl rfl, (tail (fun y => c1 (q33.mpr y.1))).2 c2 c3⟩, fun c3 => ?_⟩⟩, fun c1 => ⟨fun c4 => ⟨fun c2 => ⟨Or.inl rfl, (tail (fun y => by have := l7.mp c4; omega)).1 c2⟩, fun c2 => ⟨fun c3 => ⟨Or.inl rfl, (tail (fun y => by have := l7.mp c4; omega)).2 c2 c3⟩, fun c3 => ?_⟩⟩, fun c4 => ?_⟩⟩
  · obtain ⟨a, b⟩ := g40 c2 c3
    obtain ⟨o1, o2⟩ := op a b _ rfl
    exact ⟨br + 1, ⟨o1, by omega⟩, hC _ _ _ _ _ (c1_push (d := d) o2 hS c2 (by decide) (fun J hJ => ⟨Or.inr rfl, h2 a b J hJ⟩))⟩
  · obtain ⟨a, b⟩ := g40 c2 c3
    obtain ⟨o1, o2⟩ := op a b _ rfl
    exact ⟨br + 1, ⟨o1, by omega⟩, hC _ _ _ _ _ (c1_push (d := d) o2 hS c2 (by decide) (fun J hJ => ⟨Or.inr rfl, h2 a b J hJ⟩))⟩
  · have b : bg < 8 := Nat.lt_of_not_le (fun z => c4 (l7.mpr z))
    exact hC _ _ _ _ _ (c1_push (d := d) f7 hS c1 (by decide) (fun J hJ => ⟨Or.inr rfl, h1 (q33.mp c1) b J hJ⟩))
theorem c1_closes (h : gy_rd I0 key S o w br bg due cmp I) (hb : o.length + S.length ≤ 96) (h3 : gy_n3 S ≤ bg) (h8 : bg ≤ 8) (hbr : br ≤ 8)
    (h0 : br = 0 → K (some (.int (nI 0))) I (sx_run rw m ln))
    (h1 : br ≠ 0 → ∀ J, gy_rd I0 key (gy_eb (gy_pop 0 S o).1.tail (gy_pop 0 S o).2 bg).1 (gy_eb (gy_pop 0 S o).1.tail (gy_pop 0 S o).2 bg).2.1 w (br - 1) (gy_eb (gy_pop 0 S o).1.tail (gy_pop 0 S o).2 bg).2.2 false cmp J → K (some (.int (nI 1))) J (sx_run rw m ln)) : sx_C 44 (d + 3) [.ref 46] I (sx_run rw m ln) K := by
  have h6 := h.2.2.2.2.2.1
  have pn := gy_pop_n3 0 S o
  refine sx_enter (by decide +kernel) (Nat.le_of_ble_eq_true rfl) (sx_go m44 100 rfl (fun VV CC hV hC => ?_))
  refine ⟨fun (c : ¬ I 46 6 = 0) => ?_, fun (c : I 46 6 = 0) => ⟨Or.inl rfl, h0 ?_⟩⟩
  · rw [h6] at c
    have cb : br ≠ 0 := fun z => c (by rw [z]; rfl)
    refine hC _ _ _ _ _ (c1_putDownFrom (d := d) (l := 0) rfl (by omega) h hb (fun J hJ => ?_))
    have dec : ∀ J2 S2, gy_rd I0 key S2 (gy_pop 0 S o).2 w br bg due cmp J2 → S2 = (gy_pop 0 S o).1.tail → gy_n3 S2 ≤ bg → (gy_pop 0 S o).2.length + S2.length ≤ 96 → ∀ K2, (∀ J, gy_rd I0 key (gy_eb S2 (gy_pop 0 S o).2 bg).1 (gy_eb S2 (gy_pop 0 S o).2 bg).2.1 w (br - 1) (gy_eb S2 (gy_pop 0 S o).2 bg).2.2 false cmp J → K2 none J (sx_run rw m ln)) → sx_C 45 (d + 2) [.ref 46] (sx_up J2 46 (upd (J2 46) 6 (J2 46 6 - nI 1))) (sx_run rw m ln) K2 := by
      intro J2 S2 hJ2 _ a b K2 q
      have f := hJ2.f46 (k := 6) (v := J2 46 6 - nI 1) (w' := w) (br' := br - 1) (bg' := bg) (due' := due) (by omega) ((pk_un (by decide)).trans hJ2.2.2.1) (by rw [pk_us, hJ2.2.2.2.2.2.1, pk_sub (by omega)]) ((pk_un (by decide)).trans hJ2.2.2.2.2.2.2.1) ((pk_un (by decide)).trans hJ2.2.2.2.2.2.2.2.1)
      exact c1_endPiece f b a h8 q
    have h5 := hJ.2.2.2.2.1
    cases hS : (gy_pop 0 S o).1 with
    | nil =>
      rw [hS] at hJ h5 h1
      refine ⟨fun _ => hC _ _ _ _ _ (dec J [] hJ (by rw [hS]; rfl) (Nat.zero_le _) (by rw [hS] at pn; omega) _ (fun J3 h3' => ⟨Or.inr rfl, h1 cb J3 h3'⟩)), fun z => absurd (show J 46 5 ≤ 0 from h5 ▸ (show nI 0 ≤ 0 by decide)) z⟩
    | cons a S' =>
      rw [hS] at hJ h5 h1 pn
      have eS : (a :: S').length = S'.length + 1 := rfl
      have e3 : gy_n3 (a :: S') = (if a = 33 then 1 else 0) + gy_n3 S' := rfl
      refine ⟨fun z => ?_, fun _ => hC _ _ _ _ _ (dec _ S' (hJ.pop ?_) (by rw [hS]; rfl) (by omega) (by omega) _ (fun J3 h3' => ⟨Or.inr rfl, h1 cb J3 h3'⟩))⟩
      · have z : J 46 5 ≤ 0 := z
        rw [h5, eS] at z
        exact absurd ((nI_leI (b := 0) (by omega) (by omega)).mp z) (by omega)
      · rw [h5, eS, pk_sub (by omega)]; rfl
  · rw [h6] at c
    exact (nI_eq (b := 0) (by omega) (by omega)).mp c
theorem c1_joins {v : Nat} {x : Int32} (hx : x = gy_sb v) (hv : v < 256) (h : gy_rd I0 key S o w br bg due cmp I) (hb : o.length + S.length < 96) (hbr : br ≤ 8)
    (h0 : gy_tn v = 0 ∨ (gy_tn v = 3 ∧ cmp br ≠ 0) → K (some (.int (nI 0))) I (sx_run rw m ln))
    (h1 : ¬ (gy_tn v = 0 ∨ (gy_tn v = 3 ∧ cmp br ≠ 0)) → ∀ J, gy_rd I0 key (v :: (gy_pop (gy_tn v) S o).1) (gy_pop (gy_tn v) S o).2 w br bg true (if gy_tn v ≤ 3 then upd cmp br (if gy_tn v = 3 then nI 1 else 0) else cmp) J → K (some (.int (nI 1))) J (sx_run rw m ln)) : sx_C 46 (d + 3) [.ref 46, .int x] I (sx_run rw m ln) K := by
  subst hx
  have tn5 : gy_tn v ≤ 5 := by unfold gy_tn; split <;> (try split) <;> (try split) <;> (try split) <;> (try split) <;> omega
  have pn := gy_pop_n3 (gy_tn v) S o
  have h6 := h.2.2.2.2.2.1
  have h9 := h.2.2.2.2.2.2.2.2.1
  have t3 : nI (gy_tn v) = nI 3 ↔ gy_tn v = 3 := nI_eq (by omega) (by omega)
  have t0 : nI (gy_tn v) = 0 ↔ gy_tn v = 0 := nI_eq (b := 0) (by omega) (by omega)
  have v38 : ∀ y : Int32, y = (if gy_tn v = 3 then nI 1 else 0) → ¬ (gy_tn v = 0 ∨ (gy_tn v = 3 ∧ cmp br ≠ 0)) → sx_V 46 (d + 3) 0 0 K 38 [(0, .ref 46), (1, .int (gy_sb v)), (2, .int (nI (gy_tn v))), (3, .int y)] [] I (sx_run rw m ln) := by
    intro y hy hno
    have hpos : 0 < gy_tn v := by have : gy_tn v ≠ 0 := fun z => hno (Or.inl z); omega
    have v128 := (gy_tn_sg hpos).1
    have h1 := h1 hno
    refine sx_go m46 100 rfl (fun VV CC hV hC => ?_)
    refine hC _ _ _ _ _ (c1_putDownFrom (d := d) rfl tn5 h (by omega) (fun J hJ => ?_))
    refine hC _ _ _ _ _ (c1_push (d := d + 1) (c := v) hJ (by omega) (if_pos v128) v128 (fun J2 h2 => ?_))
    have due2 : ∀ c2 J3, gy_rd I0 key (v :: (gy_pop (gy_tn v) S o).1) (gy_pop (gy_tn v) S o).2 w br bg due c2 J3 → gy_rd I0 key (v :: (gy_pop (gy_tn v) S o).1) (gy_pop (gy_tn v) S o).2 w br bg true c2 (sx_up J3 46 (upd (J3 46) 8 (nI 1))) := fun c2 J3 g =>
      g.f46 (k := 8) (v := nI 1) (due' := true) (by omega) ((pk_un (by decide)).trans g.2.2.1) ((pk_un (by decide)).trans g.2.2.2.2.2.1) ((pk_un (by decide)).trans g.2.2.2.2.2.2.1) pk_us
    refine ⟨fun (c : nI 3 < nI (gy_tn v)) => ⟨Or.inr rfl, Or.inr rfl, ?_⟩, fun (c : ¬ nI 3 < nI (gy_tn v)) => ?_⟩
    · rw [nI_ltI (by omega) (by omega)] at c
      rw [if_neg (by omega)] at h1
      exact h1 _ (due2 _ _ h2)
    · rw [nI_ltI (by omega) (by omega)] at c
      rw [if_pos (by omega)] at h1
      have h29 := h2.2.2.2.2.2.2.2.2.1
      have ey : gy_rd I0 key (v :: (gy_pop (gy_tn v) S o).1) (gy_pop (gy_tn v) S o).2 w br bg due (upd cmp br (if gy_tn v = 3 then nI 1 else 0)) (sx_up J2 49 (upd (J2 49) br y)) := by
        rw [h29, hy]; exact h2.cmp9
      refine ⟨br, ⟨h2.2.2.2.2.2.1, by omega⟩, ?_⟩
      refine ⟨Or.inr rfl, Or.inr rfl, ?_⟩
      have ny : vp_nar .boolean y = y := by
        by_cases z : gy_tn v = 3
        · rw [hy, if_pos z]; decide +kernel
        · rw [hy, if_neg z]; decide +kernel
      rw [← ny] at ey
      exact h1 _ (due2 _ _ ey)
  have v16 : ∀ y : Int32, y = (if gy_tn v = 3 then nI 1 else 0) → sx_V 46 (d + 3) 0 0 K 16 [(0, .ref 46), (1, .int (gy_sb v)), (2, .int (nI (gy_tn v))), (3, .int y)] [] I (sx_run rw m ln) := by
    intro y hy
    refine sx_go m46 100 rfl (fun VV CC hV hC => ?_)
    refine ⟨fun (c : nI (gy_tn v) = 0) => ⟨Or.inl rfl, h0 (Or.inl (t0.mp c))⟩, fun (c : ¬ nI (gy_tn v) = 0) => ⟨fun (c2 : y = 0) => ?_, fun (c2 : ¬ y = 0) => ⟨br, ⟨h6, by omega⟩, fun (c3 : I 49 br = 0) => ?_, fun (c3 : ¬ I 49 br = 0) => ⟨Or.inl rfl, h0 (Or.inr ⟨?_, ?_⟩)⟩⟩⟩⟩
    · refine hV _ _ _ _ _ _ _ (v38 y hy (fun z => z.elim (fun z => c (t0.mpr z)) (fun z => ?_)))
      rw [hy, if_pos z.1] at c2
      exact absurd c2 (by decide)
    · exact hV _ _ _ _ _ _ _ (v38 y hy (fun z => z.elim (fun z => c (t0.mpr z)) (fun z => z.2 (by rw [← h9]; exact c3))))
    · by_cases z : gy_tn v = 3
      · exact z
      · rw [hy, if_neg z] at c2; exact absurd rfl c2
    · rw [← h9]; exact c3
  refine sx_enter (by decide +kernel) (Nat.le_of_ble_eq_true rfl) (sx_go m46 100 rfl (fun VV CC hV hC => ?_))
  refine hC _ _ _ _ _ (c1_tight (d := d + 1) rfl hv ?_)
  refine ⟨fun (c : ¬ nI (gy_tn v) = nI 3) => hV _ _ _ _ _ _ _ (v16 _ ?_), fun (c : nI (gy_tn v) = nI 3) => hV _ _ _ _ _ _ _ (v16 _ ?_)⟩
  · rw [if_neg (fun z => c (t3.mpr z))]; rfl
  · rw [if_pos (t3.mp c)]
end
