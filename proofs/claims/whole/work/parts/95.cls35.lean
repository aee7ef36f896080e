/-! ===== the law: calls that change the border of now ===== -/
section
variable {d mc ms : Nat} {I : sx_I} {rw : Nat → Nat → Option Nat} {u i N : Nat} {ln : Nat → Nat} {K : sx_K}
set_option maxRecDepth 100000 in
theorem lw_c0 (h : lw I rw u ln) (hN : ln 14 = N) (hi : i + 6 ≤ N) (next : ∀ J rw', lw J rw' u ln → sx_V 229 (d + 68) (mc + 3) (ms + 196) K 1432 [(0, .ref 14), (1, .ref 15), (2, .ref 78), (3, .int (nI i))] [] J (sx_run rw' (3 * u) ln)) :
    sx_V 229 (d + 68) (mc + 3) (ms + 196) K 216 [(0, .ref 14), (1, .ref 15), (2, .ref 78), (3, .int (nI i))] [] I (sx_run rw (3 * u) ln) := by
  obtain ⟨⟨hb, hs, htx⟩, -, ⟨hg, hgo⟩, ⟨hl, hlo⟩, -, -, -⟩ := id h
  obtain ⟨hv, t0, r0, hnt, ht0, -, -⟩ := id hs
  obtain ⟨⟨n, hn, hn10⟩, -⟩ := id hv
  have hT := htx.tn
  have lt : ∀ k, k < 6 → i + k < ln 14 := fun k hk => by omega
  refine sx_go m229 100 rfl (fun VV CC hV hC => ?_)
  refine ⟨i + 1, ⟨nI_add i 1, lt 1 (by decide)⟩, i + 2, ⟨nI_add i 2, lt 2 (by decide)⟩, i + 3, ⟨nI_add i 3, lt 3 (by decide)⟩, hC _ _ _ _ _ (c1_guard hb hv hT (fun J hJ hbJ => ?_))⟩
  have e79 : J 79 = I 79 := hJ 79 (by decide) (by decide)
  have e14 : J 14 = I 14 := hJ 14 (by decide) (by decide)
  have e82 : J 82 = I 82 := hJ 82 (by decide) (by decide)
  have e83 : J 83 = I 83 := hJ 83 (by decide) (by decide)
  have e84 : J 84 = I 84 := hJ 84 (by decide) (by decide)
  refine ⟨i + 1, ⟨nI_add i 1, lt 1 (by decide)⟩, i + 2, ⟨nI_add i 2, lt 2 (by decide)⟩, i + 3, ⟨nI_add i 3, lt 3 (by decide)⟩, hC _ _ _ _ _ (c_guard (n := n) (by rw [e79]; exact hn) hn10 ?_)⟩
  have fin : lw (sx_up J 79 (gs_guardC (I 79) (I 14 (i + 1)) (I 14 (i + 2)) (I 14 (i + 3))).1) rw u ln := lw.now h hJ hbJ hs.guardC
  refine ⟨fun _ => hV _ _ _ _ _ _ _ (next _ _ ?_), fun ne => absurd ?_ ne⟩
  · simp only [e79, e14, e82, e83, e84]
    exact fin
  · simp only [e79, e14, e82, e83, e84]
set_option maxRecDepth 100000 in
theorem lw_c3 (h : lw I rw u ln) (hN : ln 14 = N) (hi : i + 6 ≤ N) (next : ∀ J rw', lw J rw' u ln → sx_V 229 (d + 68) (mc + 3) (ms + 196) K 1432 [(0, .ref 14), (1, .ref 15), (2, .ref 78), (3, .int (nI i))] [] J (sx_run rw' (3 * u) ln)) :
    sx_V 229 (d + 68) (mc + 3) (ms + 196) K 325 [(0, .ref 14), (1, .ref 15), (2, .ref 78), (3, .int (nI i))] [] I (sx_run rw (3 * u) ln) := by
  obtain ⟨⟨hb, hs, htx⟩, -, ⟨hg, hgo⟩, ⟨hl, hlo⟩, -, -, -⟩ := id h
  obtain ⟨hv, t0, r0, hnt, ht0, -, -⟩ := id hs
  obtain ⟨⟨n, hn, hn10⟩, -⟩ := id hv
  have hT := htx.tn
  have lt : ∀ k, k < 6 → i + k < ln 14 := fun k hk => by omega
  refine sx_go m229 100 rfl (fun VV CC hV hC => ?_)
  refine ⟨i + 1, ⟨nI_add i 1, lt 1 (by decide)⟩, i + 2, ⟨nI_add i 2, lt 2 (by decide)⟩, hC _ _ _ _ _ (c1_turns hb hv hT (fun J hJ hbJ => ?_))⟩
  have e79 : J 79 = I 79 := hJ 79 (by decide) (by decide)
  have e14 : J 14 = I 14 := hJ 14 (by decide) (by decide)
  have e82 : J 82 = I 82 := hJ 82 (by decide) (by decide)
  have e83 : J 83 = I 83 := hJ 83 (by decide) (by decide)
  have e84 : J 84 = I 84 := hJ 84 (by decide) (by decide)
  refine ⟨i + 1, ⟨nI_add i 1, lt 1 (by decide)⟩, i + 2, ⟨nI_add i 2, lt 2 (by decide)⟩, hC _ _ _ _ _ (c_turns (n := n) (by rw [e79]; exact hn) hn10 ?_)⟩
  have fin : lw (sx_up J 79 (gs_turns (I 79) (I 14 (i + 1)) (I 14 (i + 2))).1) rw u ln := lw.now h hJ hbJ hs.turns
  refine ⟨fun _ => hV _ _ _ _ _ _ _ (next _ _ ?_), fun ne => absurd ?_ ne⟩
  · simp only [e79, e14, e82, e83, e84]
    exact fin
  · simp only [e79, e14, e82, e83, e84]
set_option maxRecDepth 100000 in
theorem lw_c4 (h : lw I rw u ln) (hN : ln 14 = N) (hi : i + 6 ≤ N) (next : ∀ J rw', lw J rw' u ln → sx_V 229 (d + 68) (mc + 3) (ms + 196) K 1432 [(0, .ref 14), (1, .ref 15), (2, .ref 78), (3, .int (nI i))] [] J (sx_run rw' (3 * u) ln)) :
    sx_V 229 (d + 68) (mc + 3) (ms + 196) K 358 [(0, .ref 14), (1, .ref 15), (2, .ref 78), (3, .int (nI i))] [] I (sx_run rw (3 * u) ln) := by
  obtain ⟨⟨hb, hs, htx⟩, -, ⟨hg, hgo⟩, ⟨hl, hlo⟩, -, -, -⟩ := id h
  obtain ⟨hv, t0, r0, hnt, ht0, -, -⟩ := id hs
  obtain ⟨⟨n, hn, hn10⟩, -⟩ := id hv
  have hT := htx.tn
  have lt : ∀ k, k < 6 → i + k < ln 14 := fun k hk => by omega
  refine sx_go m229 100 rfl (fun VV CC hV hC => ?_)
  refine ⟨i + 1, ⟨nI_add i 1, lt 1 (by decide)⟩, i + 2, ⟨nI_add i 2, lt 2 (by decide)⟩, i + 3, ⟨nI_add i 3, lt 3 (by decide)⟩, hC _ _ _ _ _ (c1_set hb hv hT (fun J hJ hbJ => ?_))⟩
  have e79 : J 79 = I 79 := hJ 79 (by decide) (by decide)
  have e14 : J 14 = I 14 := hJ 14 (by decide) (by decide)
  have e82 : J 82 = I 82 := hJ 82 (by decide) (by decide)
  have e83 : J 83 = I 83 := hJ 83 (by decide) (by decide)
  have e84 : J 84 = I 84 := hJ 84 (by decide) (by decide)
  refine ⟨i + 1, ⟨nI_add i 1, lt 1 (by decide)⟩, i + 2, ⟨nI_add i 2, lt 2 (by decide)⟩, i + 3, ⟨nI_add i 3, lt 3 (by decide)⟩, hC _ _ _ _ _ (c_setC (n := n) (by rw [e79]; exact hn) hn10 ?_)⟩
  have fin : lw (sx_up J 79 (gs_setC (I 79) (I 14 (i + 1)) (I 14 (i + 2)) (I 14 (i + 3))).1) rw u ln := lw.now h hJ hbJ hs.setC
  refine ⟨fun _ => hV _ _ _ _ _ _ _ (next _ _ ?_), fun ne => absurd ?_ ne⟩
  · simp only [e79, e14, e82, e83, e84]
    exact fin
  · simp only [e79, e14, e82, e83, e84]
set_option maxRecDepth 100000 in
theorem lw_c5 (h : lw I rw u ln) (hN : ln 14 = N) (hi : i + 6 ≤ N) (next : ∀ J rw', lw J rw' u ln → sx_V 229 (d + 68) (mc + 3) (ms + 196) K 1432 [(0, .ref 14), (1, .ref 15), (2, .ref 78), (3, .int (nI i))] [] J (sx_run rw' (3 * u) ln)) :
    sx_V 229 (d + 68) (mc + 3) (ms + 196) K 401 [(0, .ref 14), (1, .ref 15), (2, .ref 78), (3, .int (nI i))] [] I (sx_run rw (3 * u) ln) := by
  obtain ⟨⟨hb, hs, htx⟩, -, ⟨hg, hgo⟩, ⟨hl, hlo⟩, -, -, -⟩ := id h
  obtain ⟨hv, t0, r0, hnt, ht0, -, -⟩ := id hs
  obtain ⟨⟨n, hn, hn10⟩, -⟩ := id hv
  have hT := htx.tn
  have lt : ∀ k, k < 6 → i + k < ln 14 := fun k hk => by omega
  refine sx_go m229 100 rfl (fun VV CC hV hC => ?_)
  refine ⟨i + 1, ⟨nI_add i 1, lt 1 (by decide)⟩, i + 2, ⟨nI_add i 2, lt 2 (by decide)⟩, hC _ _ _ _ _ (c1_moves hb hv hT (fun J hJ hbJ => ?_))⟩
  have e79 : J 79 = I 79 := hJ 79 (by decide) (by decide)
  have e14 : J 14 = I 14 := hJ 14 (by decide) (by decide)
  have e82 : J 82 = I 82 := hJ 82 (by decide) (by decide)
  have e83 : J 83 = I 83 := hJ 83 (by decide) (by decide)
  have e84 : J 84 = I 84 := hJ 84 (by decide) (by decide)
  refine ⟨i + 1, ⟨nI_add i 1, lt 1 (by decide)⟩, i + 2, ⟨nI_add i 2, lt 2 (by decide)⟩, hC _ _ _ _ _ (c_moves (n := n) (by rw [e79]; exact hn) hn10 ?_)⟩
  have fin : lw (sx_up J 79 (gs_moves (I 79) (I 14 (i + 1)) (I 14 (i + 2))).1) rw u ln := lw.now h hJ hbJ hs.moves
  refine ⟨fun _ => hV _ _ _ _ _ _ _ (next _ _ ?_), fun ne => absurd ?_ ne⟩
  · simp only [e79, e14, e82, e83, e84]
    exact fin
  · simp only [e79, e14, e82, e83, e84]
set_option maxRecDepth 100000 in
theorem lw_c7 (h : lw I rw u ln) (hN : ln 14 = N) (hi : i + 6 ≤ N) (next : ∀ J rw', lw J rw' u ln → sx_V 229 (d + 68) (mc + 3) (ms + 196) K 1432 [(0, .ref 14), (1, .ref 15), (2, .ref 78), (3, .int (nI i))] [] J (sx_run rw' (3 * u) ln)) :
    sx_V 229 (d + 68) (mc + 3) (ms + 196) K 457 [(0, .ref 14), (1, .ref 15), (2, .ref 78), (3, .int (nI i))] [] I (sx_run rw (3 * u) ln) := by
  obtain ⟨⟨hb, hs, htx⟩, -, ⟨hg, hgo⟩, ⟨hl, hlo⟩, -, -, -⟩ := id h
  obtain ⟨hv, t0, r0, hnt, ht0, -, -⟩ := id hs
  obtain ⟨⟨n, hn, hn10⟩, -⟩ := id hv
  have hT := htx.tn
  have lt : ∀ k, k < 6 → i + k < ln 14 := fun k hk => by omega
  refine sx_go m229 100 rfl (fun VV CC hV hC => ?_)
  refine ⟨i + 1, ⟨nI_add i 1, lt 1 (by decide)⟩, i + 2, ⟨nI_add i 2, lt 2 (by decide)⟩, hC _ _ _ _ _ (c1_rule hb hT (fun J hJ hbJ => ?_))⟩
  have e79 : J 79 = I 79 := hJ 79 (by decide) (by decide)
  have e14 : J 14 = I 14 := hJ 14 (by decide) (by decide)
  have e82 : J 82 = I 82 := hJ 82 (by decide) (by decide)
  have e83 : J 83 = I 83 := hJ 83 (by decide) (by decide)
  have e84 : J 84 = I 84 := hJ 84 (by decide) (by decide)
  refine ⟨i + 1, ⟨nI_add i 1, lt 1 (by decide)⟩, i + 2, ⟨nI_add i 2, lt 2 (by decide)⟩, hC _ _ _ _ _ (c_rule ?_)⟩
  have fin : lw (sx_up J 79 (gs_rule (I 79) (I 14 (i + 1)) (I 14 (i + 2))).1) rw u ln := lw.now h hJ hbJ hs.rule
  refine ⟨fun _ => hV _ _ _ _ _ _ _ (next _ _ ?_), fun ne => absurd ?_ ne⟩
  · simp only [e79, e14, e82, e83, e84]
    exact fin
  · simp only [e79, e14, e82, e83, e84]
set_option maxRecDepth 100000 in
theorem lw_c8 (h : lw I rw u ln) (hN : ln 14 = N) (hi : i + 6 ≤ N) (next : ∀ J rw', lw J rw' u ln → sx_V 229 (d + 68) (mc + 3) (ms + 196) K 1432 [(0, .ref 14), (1, .ref 15), (2, .ref 78), (3, .int (nI i))] [] J (sx_run rw' (3 * u) ln)) :
    sx_V 229 (d + 68) (mc + 3) (ms + 196) K 490 [(0, .ref 14), (1, .ref 15), (2, .ref 78), (3, .int (nI i))] [] I (sx_run rw (3 * u) ln) := by
  obtain ⟨⟨hb, hs, htx⟩, -, ⟨hg, hgo⟩, ⟨hl, hlo⟩, -, -, -⟩ := id h
  obtain ⟨hv, t0, r0, hnt, ht0, -, -⟩ := id hs
  obtain ⟨⟨n, hn, hn10⟩, -⟩ := id hv
  have hT := htx.tn
  have lt : ∀ k, k < 6 → i + k < ln 14 := fun k hk => by omega
  refine sx_go m229 100 rfl (fun VV CC hV hC => ?_)
  refine ⟨i + 1, ⟨nI_add i 1, lt 1 (by decide)⟩, hC _ _ _ _ _ (c1_deal hb hv hT (fun J hJ hbJ => ?_))⟩
  have e79 : J 79 = I 79 := hJ 79 (by decide) (by decide)
  have e14 : J 14 = I 14 := hJ 14 (by decide) (by decide)
  have e82 : J 82 = I 82 := hJ 82 (by decide) (by decide)
  have e83 : J 83 = I 83 := hJ 83 (by decide) (by decide)
  have e84 : J 84 = I 84 := hJ 84 (by decide) (by decide)
  refine ⟨i + 1, ⟨nI_add i 1, lt 1 (by decide)⟩, hC _ _ _ _ _ (c_deal (n := n) (by rw [e79]; exact hn) hn10 ?_)⟩
  have fin : lw (sx_up J 79 (gs_deal (I 79) (I 14 (i + 1))).1) rw u ln := lw.now h hJ hbJ hs.deal
  refine ⟨fun _ => hV _ _ _ _ _ _ _ (next _ _ ?_), fun ne => absurd ?_ ne⟩
  · simp only [e79, e14, e82, e83, e84]
    exact fin
  · simp only [e79, e14, e82, e83, e84]
set_option maxRecDepth 100000 in
theorem lw_c9 (h : lw I rw u ln) (hN : ln 14 = N) (hi : i + 6 ≤ N) (next : ∀ J rw', lw J rw' u ln → sx_V 229 (d + 68) (mc + 3) (ms + 196) K 1432 [(0, .ref 14), (1, .ref 15), (2, .ref 78), (3, .int (nI i))] [] J (sx_run rw' (3 * u) ln)) :
    sx_V 229 (d + 68) (mc + 3) (ms + 196) K 513 [(0, .ref 14), (1, .ref 15), (2, .ref 78), (3, .int (nI i))] [] I (sx_run rw (3 * u) ln) := by
  obtain ⟨⟨hb, hs, htx⟩, -, ⟨hg, hgo⟩, ⟨hl, hlo⟩, -, -, -⟩ := id h
  obtain ⟨hv, t0, r0, hnt, ht0, -, -⟩ := id hs
  obtain ⟨⟨n, hn, hn10⟩, -⟩ := id hv
  have hT := htx.tn
  have lt : ∀ k, k < 6 → i + k < ln 14 := fun k hk => by omega
  refine sx_go m229 100 rfl (fun VV CC hV hC => ?_)
  refine ⟨i + 1, ⟨nI_add i 1, lt 1 (by decide)⟩, hC _ _ _ _ _ (c1_seed hb hT (fun J hJ hbJ => ?_))⟩
  have e79 : J 79 = I 79 := hJ 79 (by decide) (by decide)
  have e14 : J 14 = I 14 := hJ 14 (by decide) (by decide)
  have e82 : J 82 = I 82 := hJ 82 (by decide) (by decide)
  have e83 : J 83 = I 83 := hJ 83 (by decide) (by decide)
  have e84 : J 84 = I 84 := hJ 84 (by decide) (by decide)
  refine ⟨i + 1, ⟨nI_add i 1, lt 1 (by decide)⟩, hC _ _ _ _ _ (c_seed ?_)⟩
  have fin : lw (sx_up J 79 (upd (I 79) 11 (I 14 (i + 1)))) rw u ln := lw.now h hJ hbJ (hs.up (by omega) _)
  refine ⟨fun _ => hV _ _ _ _ _ _ _ (next _ _ ?_), fun ne => absurd ?_ ne⟩
  · simp only [e79, e14, e82, e83, e84]
    exact fin
  · simp only [e79, e14, e82, e83, e84]
set_option maxRecDepth 100000 in
theorem lw_c11 (h : lw I rw u ln) (hN : ln 14 = N) (hi : i + 6 ≤ N) (next : ∀ J rw', lw J rw' u ln → sx_V 229 (d + 68) (mc + 3) (ms + 196) K 1432 [(0, .ref 14), (1, .ref 15), (2, .ref 78), (3, .int (nI i))] [] J (sx_run rw' (3 * u) ln)) :
    sx_V 229 (d + 68) (mc + 3) (ms + 196) K 559 [(0, .ref 14), (1, .ref 15), (2, .ref 78), (3, .int (nI i))] [] I (sx_run rw (3 * u) ln) := by
  obtain ⟨⟨hb, hs, htx⟩, -, ⟨hg, hgo⟩, ⟨hl, hlo⟩, -, -, -⟩ := id h
  obtain ⟨hv, t0, r0, hnt, ht0, -, -⟩ := id hs
  obtain ⟨⟨n, hn, hn10⟩, -⟩ := id hv
  have hT := htx.tn
  have lt : ∀ k, k < 6 → i + k < ln 14 := fun k hk => by omega
  refine sx_go m229 100 rfl (fun VV CC hV hC => ?_)
  refine ⟨i + 1, ⟨nI_add i 1, lt 1 (by decide)⟩, hC _ _ _ _ _ (c1_nights hb hv htx hnt ht0 (fun J hJ hbJ => ?_))⟩
  have e79 : J 79 = I 79 := hJ 79 (by decide) (by decide)
  have e14 : J 14 = I 14 := hJ 14 (by decide) (by decide)
  have e82 : J 82 = I 82 := hJ 82 (by decide) (by decide)
  have e83 : J 83 = I 83 := hJ 83 (by decide) (by decide)
  have e84 : J 84 = I 84 := hJ 84 (by decide) (by decide)
  refine ⟨i + 1, ⟨nI_add i 1, lt 1 (by decide)⟩, hC _ _ _ _ _ (c_nights (n := n) (t := t0) (by rw [e79]; exact hn) hn10 (by rw [e79]; exact htx.tx) (by rw [e79]; exact hnt) ht0 (fun J2 hJ2 => ?_))⟩
  have fin : lw (sx_up J 79 (gs_nightsS (I 79) (I 14 (i + 1)))) rw u ln := lw.now h hJ hbJ hs.nights
  refine ⟨fun _ => hV _ _ _ _ _ _ _ (next _ _ ((lw_q.sc hJ2).lw ?_)), fun ne => absurd ?_ ne⟩
  · simp only [e79, e14, e82, e83, e84]
    exact fin
  · simp only [e79, e14, e82, e83, e84]
set_option maxRecDepth 100000 in
theorem lw_c30 (h : lw I rw u ln) (hN : ln 14 = N) (hi : i + 6 ≤ N) (next : ∀ J rw', lw J rw' u ln → sx_V 229 (d + 68) (mc + 3) (ms + 196) K 1432 [(0, .ref 14), (1, .ref 15), (2, .ref 78), (3, .int (nI i))] [] J (sx_run rw' (3 * u) ln)) :
    sx_V 229 (d + 68) (mc + 3) (ms + 196) K 1086 [(0, .ref 14), (1, .ref 15), (2, .ref 78), (3, .int (nI i))] [] I (sx_run rw (3 * u) ln) := by
  obtain ⟨⟨hb, hs, htx⟩, -, ⟨hg, hgo⟩, ⟨hl, hlo⟩, -, -, -⟩ := id h
  obtain ⟨hv, t0, r0, hnt, ht0, -, -⟩ := id hs
  obtain ⟨⟨n, hn, hn10⟩, -⟩ := id hv
  have hT := htx.tn
  have lt : ∀ k, k < 6 → i + k < ln 14 := fun k hk => by omega
  refine sx_go m229 100 rfl (fun VV CC hV hC => ?_)
  refine ⟨i + 1, ⟨nI_add i 1, lt 1 (by decide)⟩, hC _ _ _ _ _ (c1_pour hb hv hT hg hgo (fun J hJ hbJ => ?_))⟩
  have e79 : J 79 = I 79 := hJ 79 (by decide) (by decide)
  have e14 : J 14 = I 14 := hJ 14 (by decide) (by decide)
  have e82 : J 82 = I 82 := hJ 82 (by decide) (by decide)
  have e83 : J 83 = I 83 := hJ 83 (by decide) (by decide)
  have e84 : J 84 = I 84 := hJ 84 (by decide) (by decide)
  refine ⟨i + 1, ⟨nI_add i 1, lt 1 (by decide)⟩, hC _ _ _ _ _ (c_pour (n := n) (by rw [e79]; exact hn) hn10 (by rw [e83]; exact fun j hj => (hgo j hj).2.1) ?_)⟩
  have fin : lw (sx_up J 79 (gs_pour (I 79) (I 82) (I 83) (I 84) (I 14 (i + 1))).1) rw u ln := lw.now h hJ hbJ hs.pour
  refine ⟨fun _ => hV _ _ _ _ _ _ _ (next _ _ ?_), fun ne => absurd ?_ ne⟩
  · simp only [e79, e14, e82, e83, e84]
    exact fin
  · simp only [e79, e14, e82, e83, e84]
end
