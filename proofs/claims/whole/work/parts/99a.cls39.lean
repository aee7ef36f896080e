/-! ===== the law: check, keep, back ===== -/
section
variable {d mc ms : Nat} {I : sx_I} {rw : Nat → Nat → Option Nat} {u i N : Nat} {ln : Nat → Nat} {K : sx_K}
set_option maxRecDepth 100000 in
theorem lw_c38 (h : lw I rw u ln) (hN : ln 14 = N) (hi : i + 6 ≤ N) (next : ∀ J rw', lw J rw' u ln → sx_V 229 (d + 68) (mc + 3) (ms + 196) K 1432 [(0, .ref 14), (1, .ref 15), (2, .ref 78), (3, .int (nI i))] [] J (sx_run rw' (3 * u) ln)) :
    sx_V 229 (d + 68) (mc + 3) (ms + 196) K 1360 [(0, .ref 14), (1, .ref 15), (2, .ref 78), (3, .int (nI i))] [] I (sx_run rw (3 * u) ln) := by
  have lt : ∀ k, k < 6 → i + k < ln 14 := fun k hk => by omega
  obtain ⟨hA, hB, -, -, -, hF, hG⟩ := id h
  obtain ⟨hBc, hsB, htxB⟩ := id hB
  obtain ⟨hvB, tB, rB, hntB, htB, -, -⟩ := id hsB
  obtain ⟨⟨nB, hnB, hnB10⟩, -⟩ := id hvB
  obtain ⟨w, h11, h29, hw, hwt⟩ := id hF
  have ag : ∀ q, q < 2862 → gs_62 (I 79) (I 80) 2862 q = I 80 q := fun q hq => if_pos hq
  have fin : ∀ J J2 rw', gb_rw 37 rw rw' → gb_fr 37 (sx_up I 15 (upd (I 15) 11 (nI 0))) J → (∀ a, a ≠ 78 → a ≠ 81 → a ≠ 92 → a ≠ 93 → a ≠ 96 → J2 a = J a) → J2 78 = upd (J 78) 29 (nI 0) → lw J2 rw' u ln := by
    intro J J2 rw' hr f1 f2 f3
    have g : ∀ q, ¬ (200 ≤ q ∧ (q - 200) % 3 = 2) → ((q < 37 ∨ 45 < q) ∧ q ≠ 137) → q ≠ 15 → J q = I q := fun q a b c => (f1 q a (by omega)).trans (sx_up_ne c)
    refine (h.rows hr).waits (w := 0) (fun q a => (f2 q (by omega) (by omega) (by omega) (by omega) (by omega)).trans (g q (by omega) (by omega) (by omega))) ?_ ?_ (by omega) (fun k hk => absurd hk (Nat.not_lt_zero k))
    · rw [f2 15 (by decide) (by decide) (by decide) (by decide) (by decide), f1 15 (by decide) (by decide), sx_up_same]
    · rw [f3, g 78 (by decide) (by decide) (by decide)]
  refine sx_go m229 100 rfl (fun VV CC hV hC => ?_)
  refine ⟨i + 1, ⟨nI_add i 1, lt 1 (by decide)⟩, hC _ _ _ _ _ (c1_check (im := gs_62 (I 79) (I 80) 2862) (W := I 95) (t0 := tB) (M := w) h11 hw hwt (fun c => ?_) (fun c1 c2 => ?_) (fun c => ⟨?_, (hsB.ag (fun q hq => ag q (by omega))).1, htxB.cg (fun _ _ _ => rfl) (ag 1 (by omega)) (fun q _ hq => ag q hq), (ag 2 (by omega)).trans hntB, htB⟩) (fun J c1 c2 hf => ?_))⟩
  · obtain ⟨J, hf, eJ⟩ : ∃ J, gb_fr 37 (sx_up I 15 (upd (I 15) 11 (nI 0))) J ∧ sx_up I 15 (upd (I 15) 11 (nI 0)) = J := ⟨_, gb_fr.rf _ _, rfl⟩
    have ea : gs_check (I 78 3) (I 95) (I 79) (I 80) w (I 14 (i + 1)) = -1000000001 := if_pos c
    rw [eJ]
    have g : ∀ q, ¬ (200 ≤ q ∧ (q - 200) % 3 = 2) → ((q < 37 ∨ 45 < q) ∧ q ≠ 137) → q ≠ 15 → J q = I q := fun q a b c => (hf q a (by omega)).trans (sx_up_ne c)
    have e14 : J 14 = I 14 := g 14 (by decide) (by decide) (by decide)
    have e78 : J 78 = I 78 := g 78 (by decide) (by decide) (by decide)
    have e79 : J 79 = I 79 := g 79 (by decide) (by decide) (by decide)
    have e80 : J 80 = I 80 := g 80 (by decide) (by decide) (by decide)
    have e95 : J 95 = I 95 := g 95 (by decide) (by decide) (by decide)
    refine ⟨i + 1, ⟨nI_add i 1, lt 1 (by decide)⟩, hC _ _ _ _ _ (c_check (n := nB) (t := tB) (M := w) (by rw [e78]; exact h29) hw (by rw [e80]; exact hnB) hnB10 (by rw [e80]; exact htxB.tx) (by rw [e80]; exact hntB) htB (fun J2 f2 f3 => ?_))⟩
    rw [e14, e78, e79, e80, e95, ea]
    exact ⟨fun _ => hV _ _ _ _ _ _ _ (next _ _ (fin J J2 _ (gb_rw.rf _ _) hf f2 f3)), fun ne => absurd rfl ne⟩
  · obtain ⟨J, hf, eJ⟩ : ∃ J, gb_fr 37 (sx_up I 15 (upd (I 15) 11 (nI 0))) J ∧ sx_up I 15 (upd (I 15) 11 (nI 0)) = J := ⟨_, gb_fr.rf _ _, rfl⟩
    have c3 : I 78 3 = 0 := by
      rcases hBc with z | z
      · exact z.2
      · exact absurd c2 z.1
    have ea : gs_check (I 78 3) (I 95) (I 79) (I 80) w (I 14 (i + 1)) = -1000000002 := (if_neg c1).trans (if_pos c3)
    rw [eJ]
    have g : ∀ q, ¬ (200 ≤ q ∧ (q - 200) % 3 = 2) → ((q < 37 ∨ 45 < q) ∧ q ≠ 137) → q ≠ 15 → J q = I q := fun q a b c => (hf q a (by omega)).trans (sx_up_ne c)
    have e14 : J 14 = I 14 := g 14 (by decide) (by decide) (by decide)
    have e78 : J 78 = I 78 := g 78 (by decide) (by decide) (by decide)
    have e79 : J 79 = I 79 := g 79 (by decide) (by decide) (by decide)
    have e80 : J 80 = I 80 := g 80 (by decide) (by decide) (by decide)
    have e95 : J 95 = I 95 := g 95 (by decide) (by decide) (by decide)
    refine ⟨i + 1, ⟨nI_add i 1, lt 1 (by decide)⟩, hC _ _ _ _ _ (c_check (n := nB) (t := tB) (M := w) (by rw [e78]; exact h29) hw (by rw [e80]; exact hnB) hnB10 (by rw [e80]; exact htxB.tx) (by rw [e80]; exact hntB) htB (fun J2 f2 f3 => ?_))⟩
    rw [e14, e78, e79, e80, e95, ea]
    exact ⟨fun _ => hV _ _ _ _ _ _ _ (next _ _ (fin J J2 _ (gb_rw.rf _ _) hf f2 f3)), fun ne => absurd rfl ne⟩
  · rcases hBc with z | z
    · exact absurd z.1 c
    · exact z.2.2.ag htxB.tn ag
  · have c3 : ¬ I 78 3 = 0 := by
      rcases hBc with z | z
      · exact absurd z.1 c2
      · exact z.2.1
    have ea : gs_check (I 78 3) (I 95) (I 79) (I 80) w (I 14 (i + 1)) = gs_ckA (I 95) (gs_62 (I 79) (I 80) 2862) w (2 * gs_ckN (I 14 (i + 1)) (I 80 2)) := (if_neg c1).trans (if_neg c3)
    rw [ag 2 (by omega)]
    have g : ∀ q, ¬ (200 ≤ q ∧ (q - 200) % 3 = 2) → ((q < 37 ∨ 45 < q) ∧ q ≠ 137) → q ≠ 15 → J q = I q := fun q a b c => (hf q a (by omega)).trans (sx_up_ne c)
    have e14 : J 14 = I 14 := g 14 (by decide) (by decide) (by decide)
    have e78 : J 78 = I 78 := g 78 (by decide) (by decide) (by decide)
    have e79 : J 79 = I 79 := g 79 (by decide) (by decide) (by decide)
    have e80 : J 80 = I 80 := g 80 (by decide) (by decide) (by decide)
    have e95 : J 95 = I 95 := g 95 (by decide) (by decide) (by decide)
    refine ⟨i + 1, ⟨nI_add i 1, lt 1 (by decide)⟩, hC _ _ _ _ _ (c_check (n := nB) (t := tB) (M := w) (by rw [e78]; exact h29) hw (by rw [e80]; exact hnB) hnB10 (by rw [e80]; exact htxB.tx) (by rw [e80]; exact hntB) htB (fun J2 f2 f3 => ?_))⟩
    rw [e14, e78, e79, e80, e95, ea]
    exact ⟨fun _ => hV _ _ _ _ _ _ _ (next _ _ (fin J J2 _ (gb_rw.cp 37 28 rw) hf f2 f3)), fun ne => absurd rfl ne⟩
set_option maxRecDepth 100000 in
theorem lw_c39 (h : lw I rw u ln) (hN : ln 14 = N) (hi : i + 6 ≤ N) (next : ∀ J rw', lw J rw' u ln → sx_V 229 (d + 68) (mc + 3) (ms + 196) K 1432 [(0, .ref 14), (1, .ref 15), (2, .ref 78), (3, .int (nI i))] [] J (sx_run rw' (3 * u) ln)) :
    sx_V 229 (d + 68) (mc + 3) (ms + 196) K 1383 [(0, .ref 14), (1, .ref 15), (2, .ref 78), (3, .int (nI i))] [] I (sx_run rw (3 * u) ln) := by
  obtain ⟨⟨hb, hs, htx⟩, hB, hC', hD, hE, hF, hG⟩ := id h
  refine sx_go m229 100 rfl (fun VV CC hV hC => ?_)
  refine hC _ _ _ _ _ (c1_keep hb htx.ro (fun J hJ hbJ => ?_))
  have base : ∀ J1 : sx_I, J1 = sx_up J 15 (upd (J 15) 4 (nI 1)) → (∀ q, q ≠ 15 → J1 q = J q) ∧ J1 15 = upd (I 15) 4 (nI 1) := by
    intro J1 e
    exact ⟨fun q hq => by rw [e]; exact sx_up_ne hq, by rw [e, sx_up_same, hJ 15 (by decide) (by decide)]⟩
  generalize eJ : sx_up J 15 (upd (J 15) 4 (nI 1)) = J1
  obtain ⟨g, e15⟩ := base J1 eJ.symm
  have f : ∀ q, ¬ (200 ≤ q ∧ (q - 200) % 3 = 2) → ((q < 28 ∨ 36 < q) ∧ q ≠ 128) → q ≠ 15 → J1 q = I q := fun q a b c => (g q c).trans (hJ q a (by omega))
  have ag : ∀ q, q < 2862 → gs_62 (J1 80) (I 79) 2862 q = I 79 q := fun q hq => if_pos hq
  refine hC _ _ _ _ _ (c_keep ?_)
  rw [f 79 (by decide) (by decide) (by decide)]
  refine ⟨fun _ => hV _ _ _ _ _ _ _ (next _ _ ?_), fun ne => absurd rfl ne⟩
  have fin : ∀ L : sx_I, L = sx_up (sx_up J1 78 (upd (J1 78) 3 (nI 1))) 80 (gs_62 (J1 80) (I 79) 2862) → lw L (gb_cp rw 28 19 14) u ln := by
    intro L eL
    have l : ∀ q, q ≠ 78 → q ≠ 80 → L q = J1 q := fun q a b => by rw [eL, sx_up_ne b, sx_up_ne a]
    have l80 : L 80 = gs_62 (J1 80) (I 79) 2862 := by rw [eL, sx_up_same]
    have l78 : L 78 = upd (I 78) 3 (nI 1) := by rw [eL, sx_up_ne (by decide), sx_up_same, f 78 (by decide) (by decide) (by decide)]
    have l15 : L 15 = upd (I 15) 4 (nI 1) := (l 15 (by decide) (by decide)).trans e15
    have lI : ∀ q, ¬ (200 ≤ q ∧ (q - 200) % 3 = 2) → ((q < 28 ∨ 36 < q) ∧ q ≠ 128) → q ≠ 15 → q ≠ 78 → q ≠ 80 → L q = I q := fun q a b c d e => (l q d e).trans (f q a b c)
    refine ⟨((show lwA I rw u ln from ⟨hb, hs, htx⟩).cg (fun q a => lI q (by omega) (by omega) (by omega) (by omega) (by omega))).rows (gb_cp_ne (by decide)), ⟨Or.inr ⟨?_, ?_, ?_⟩, ?_, ?_⟩, hC'.cg (fun q a => lI q (by omega) (by omega) (by omega) (by omega) (by omega)), hD.cg (fun q a => lI q (by omega) (by omega) (by omega) (by omega) (by omega)), hE.cg ?_ ?_ (lI 50 (by decide) (by decide) (by decide) (by decide) (by decide)) (lI 91 (by decide) (by decide) (by decide) (by decide) (by decide)), hF.cg ?_ ?_ (lI 53 (by decide) (by decide) (by decide) (by decide) (by decide)) (lI 95 (by decide) (by decide) (by decide) (by decide) (by decide)), trivial⟩
    · rw [l15, pk_us]; decide
    · rw [l78, pk_us]; decide
    · rw [l80]
      exact (hbJ.ag htx.tn ag).fr2 (fun q a => (l q (by omega) (by omega)).trans (g q (by omega)))
    · rw [l80]; exact hs.ag (fun q hq => ag q (by omega))
    · rw [l80]; exact gb_tx.cp (rw := rw) (S := 19) 28 (htx.cg (fun a ha hc => lI a (by omega) (by omega) (by omega) (by omega) (by omega)) (ag 1 (by omega)) (fun q _ hq => ag q hq))
    · rw [l15, pk_un (by decide)]
    · rw [l78, pk_un (by decide)]
    · rw [l15, pk_un (by decide)]
    · rw [l78, pk_un (by decide)]
  exact fin _ rfl
set_option maxRecDepth 100000 in
theorem lw_c40 (h : lw I rw u ln) (hN : ln 14 = N) (hi : i + 6 ≤ N) (next : ∀ J rw', lw J rw' u ln → sx_V 229 (d + 68) (mc + 3) (ms + 196) K 1432 [(0, .ref 14), (1, .ref 15), (2, .ref 78), (3, .int (nI i))] [] J (sx_run rw' (3 * u) ln)) :
    sx_V 229 (d + 68) (mc + 3) (ms + 196) K 1396 [(0, .ref 14), (1, .ref 15), (2, .ref 78), (3, .int (nI i))] [] I (sx_run rw (3 * u) ln) := by
  obtain ⟨hA, ⟨hBc, hsB, htxB⟩, hC', hD, hE, hF, hG⟩ := id h
  refine sx_go m229 100 rfl (fun VV CC hV hC => ?_)
  refine hC _ _ _ _ _ (c1_back (im := I 80) (fun c => ?_) (fun c => ?_) htxB.ro (fun J c hJ hbJ => ?_))
  · have c3 : I 78 3 = 0 := by
      rcases hBc with z | z
      · exact z.2
      · exact absurd c z.1
    have ea : gs_back (I 78 3) (I 79) (I 80) = (I 79, -1000000002) := if_pos c3
    refine hC _ _ _ _ _ (c_back ?_)
    rw [ea, sx_upself]
    exact ⟨fun _ => hV _ _ _ _ _ _ _ (next _ _ h), fun ne => absurd rfl ne⟩
  · rcases hBc with z | z
    · exact absurd z.1 c
    · exact z.2.2
  · have c3 : ¬ I 78 3 = 0 := by
      rcases hBc with z | z
      · exact absurd z.1 c
      · exact z.2.1
    have ea : gs_back (J 78 3) (J 79) (J 80) = (gs_62 (I 79) (I 80) 2862, I 80 0) := by
      rw [hJ 78 (by decide) (by decide), hJ 79 (by decide) (by decide), hJ 80 (by decide) (by decide)]
      exact if_neg c3
    have ag : ∀ q, q < 2862 → gs_62 (I 79) (I 80) 2862 q = I 80 q := fun q hq => if_pos hq
    refine hC _ _ _ _ _ (c_back ?_)
    rw [ea]
    refine ⟨fun _ => hV _ _ _ _ _ _ _ (next _ _ ?_), fun ne => absurd rfl ne⟩
    have fin : ∀ L : sx_I, L = sx_up J 79 (gs_62 (I 79) (I 80) 2862) → lw L (gb_cp rw 19 28 14) u ln := by
      intro L eL
      have l : ∀ q, q ≠ 79 → L q = J q := fun q a => by rw [eL]; exact sx_up_ne a
      have l79 : L 79 = gs_62 (I 79) (I 80) 2862 := by rw [eL, sx_up_same]
      have lI : ∀ q, ¬ (200 ≤ q ∧ (q - 200) % 3 = 2) → ((q < 19 ∨ 27 < q) ∧ q ≠ 119) → q ≠ 79 → L q = I q := fun q a b c => (l q c).trans (hJ q a (by omega))
      refine ⟨⟨?_, ?_, ?_⟩, ((show lwB I rw u ln from ⟨hBc, hsB, htxB⟩).cg (fun q a => lI q (by omega) (by omega) (by omega)) ?_ ?_).rows (gb_cp_ne (by decide)), hC'.cg (fun q a => lI q (by omega) (by omega) (by omega)), hD.cg (fun q a => lI q (by omega) (by omega) (by omega)), hE.cg ?_ ?_ (lI 50 (by decide) (by decide) (by decide)) (lI 91 (by decide) (by decide) (by decide)), hF.cg ?_ ?_ (lI 53 (by decide) (by decide) (by decide)) (lI 95 (by decide) (by decide) (by decide)), trivial⟩
      · rw [l79]
        exact (hbJ.ag htxB.tn ag).fr2 (fun q a => l q (by omega))
      · rw [l79]; exact hsB.ag (fun q hq => ag q (by omega))
      · rw [l79]; exact gb_tx.cp (rw := rw) (S := 28) 19 (htxB.cg (fun a ha hc => lI a (by omega) (by omega) (by omega)) (ag 1 (by omega)) (fun q _ hq => ag q hq))
      · rw [lI 15 (by decide) (by decide) (by decide)]
      · rw [lI 78 (by decide) (by decide) (by decide)]
      · rw [lI 15 (by decide) (by decide) (by decide)]
      · rw [lI 78 (by decide) (by decide) (by decide)]
      · rw [lI 15 (by decide) (by decide) (by decide)]
      · rw [lI 78 (by decide) (by decide) (by decide)]
    exact fin _ rfl
end
