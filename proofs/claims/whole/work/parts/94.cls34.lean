/-! ===== the law: calls that only ask ===== -/
section
variable {d mc ms : Nat} {I : sx_I} {rw : Nat → Nat → Option Nat} {u i N : Nat} {ln : Nat → Nat} {K : sx_K}
set_option maxRecDepth 100000 in
theorem lw_c1 (h : lw I rw u ln) (hN : ln 14 = N) (hi : i + 6 ≤ N) (next : ∀ J rw', lw J rw' u ln → sx_V 229 (d + 68) (mc + 3) (ms + 196) K 1432 [(0, .ref 14), (1, .ref 15), (2, .ref 78), (3, .int (nI i))] [] J (sx_run rw' (3 * u) ln)) :
    sx_V 229 (d + 68) (mc + 3) (ms + 196) K 259 [(0, .ref 14), (1, .ref 15), (2, .ref 78), (3, .int (nI i))] [] I (sx_run rw (3 * u) ln) := by
  obtain ⟨⟨hb, hs, htx⟩, -, ⟨hg, hgo⟩, ⟨hl, hlo⟩, -, -, -⟩ := id h
  obtain ⟨hv, t0, r0, hnt, ht0, -, -⟩ := id hs
  obtain ⟨⟨n, hn, hn10⟩, -⟩ := id hv
  have hT := htx.tn
  have lt : ∀ k, k < 6 → i + k < ln 14 := fun k hk => by omega
  refine sx_go m229 100 rfl (fun VV CC hV hC => ?_)
  refine ⟨i + 1, ⟨nI_add i 1, lt 1 (by decide)⟩, i + 2, ⟨nI_add i 2, lt 2 (by decide)⟩, hC _ _ _ _ _ (c1_told hb hv htx hnt (by omega) (fun J hJ => ?_))⟩
  have q1 := lw_q.k hJ
  have e14 : J 14 = I 14 := q1.a (by omega)
  have e79 : J 79 = I 79 := q1.a (by omega)
  have e82 : J 82 = I 82 := q1.a (by omega)
  have e83 : J 83 = I 83 := q1.a (by omega)
  have e84 : J 84 = I 84 := q1.a (by omega)
  have e85 : J 85 = I 85 := q1.a (by omega)
  have e86 : J 86 = I 86 := q1.a (by omega)
  have e87 : J 87 = I 87 := q1.a (by omega)
  have e88 : J 88 = I 88 := q1.a (by omega)
  have e89 : J 89 = I 89 := q1.a (by omega)
  refine ⟨i + 1, ⟨nI_add i 1, lt 1 (by decide)⟩, i + 2, ⟨nI_add i 2, lt 2 (by decide)⟩, hC _ _ _ _ _ (c_told (n := n) (by rw [e79]; exact hn) hn10 (by rw [e79]; exact htx.tx) (fun J2 hJ2 => ?_))⟩
  refine ⟨fun _ => hV _ _ _ _ _ _ _ (next _ _ ((q1.tr (lw_q.sc hJ2)).lw h)), fun ne => absurd ?_ ne⟩
  simp only [e79, e14, e82, e83, e84, e85, e86, e87, e88, e89]
set_option maxRecDepth 100000 in
theorem lw_c2 (h : lw I rw u ln) (hN : ln 14 = N) (hi : i + 6 ≤ N) (next : ∀ J rw', lw J rw' u ln → sx_V 229 (d + 68) (mc + 3) (ms + 196) K 1432 [(0, .ref 14), (1, .ref 15), (2, .ref 78), (3, .int (nI i))] [] J (sx_run rw' (3 * u) ln)) :
    sx_V 229 (d + 68) (mc + 3) (ms + 196) K 292 [(0, .ref 14), (1, .ref 15), (2, .ref 78), (3, .int (nI i))] [] I (sx_run rw (3 * u) ln) := by
  obtain ⟨⟨hb, hs, htx⟩, -, ⟨hg, hgo⟩, ⟨hl, hlo⟩, -, -, -⟩ := id h
  obtain ⟨hv, t0, r0, hnt, ht0, -, -⟩ := id hs
  obtain ⟨⟨n, hn, hn10⟩, -⟩ := id hv
  have hT := htx.tn
  have lt : ∀ k, k < 6 → i + k < ln 14 := fun k hk => by omega
  refine sx_go m229 100 rfl (fun VV CC hV hC => ?_)
  refine ⟨i + 1, ⟨nI_add i 1, lt 1 (by decide)⟩, i + 2, ⟨nI_add i 2, lt 2 (by decide)⟩, hC _ _ _ _ _ (c1_as hb hv ?_)⟩
  have q1 := lw_q.rf I
  have e14 : I 14 = I 14 := q1.a (by omega)
  have e79 : I 79 = I 79 := q1.a (by omega)
  have e82 : I 82 = I 82 := q1.a (by omega)
  have e83 : I 83 = I 83 := q1.a (by omega)
  have e84 : I 84 = I 84 := q1.a (by omega)
  have e85 : I 85 = I 85 := q1.a (by omega)
  have e86 : I 86 = I 86 := q1.a (by omega)
  have e87 : I 87 = I 87 := q1.a (by omega)
  have e88 : I 88 = I 88 := q1.a (by omega)
  have e89 : I 89 = I 89 := q1.a (by omega)
  have e78 : I 78 = I 78 := rfl
  refine ⟨i + 1, ⟨nI_add i 1, lt 1 (by decide)⟩, i + 2, ⟨nI_add i 2, lt 2 (by decide)⟩, hC _ _ _ _ _ (c_as (n := n) (by rw [e79]; exact hn) hn10 ?_)⟩
  refine ⟨fun _ => hV _ _ _ _ _ _ _ (next _ _ (q1.lw h)), fun ne => absurd ?_ ne⟩
  rfl
set_option maxRecDepth 100000 in
theorem lw_c6 (h : lw I rw u ln) (hN : ln 14 = N) (hi : i + 6 ≤ N) (next : ∀ J rw', lw J rw' u ln → sx_V 229 (d + 68) (mc + 3) (ms + 196) K 1432 [(0, .ref 14), (1, .ref 15), (2, .ref 78), (3, .int (nI i))] [] J (sx_run rw' (3 * u) ln)) :
    sx_V 229 (d + 68) (mc + 3) (ms + 196) K 434 [(0, .ref 14), (1, .ref 15), (2, .ref 78), (3, .int (nI i))] [] I (sx_run rw (3 * u) ln) := by
  obtain ⟨⟨hb, hs, htx⟩, -, ⟨hg, hgo⟩, ⟨hl, hlo⟩, -, -, -⟩ := id h
  obtain ⟨hv, t0, r0, hnt, ht0, -, -⟩ := id hs
  obtain ⟨⟨n, hn, hn10⟩, -⟩ := id hv
  have hT := htx.tn
  have lt : ∀ k, k < 6 → i + k < ln 14 := fun k hk => by omega
  refine sx_go m229 100 rfl (fun VV CC hV hC => ?_)
  refine ⟨i + 1, ⟨nI_add i 1, lt 1 (by decide)⟩, hC _ _ _ _ _ (c1_at hb hv ?_)⟩
  have q1 := lw_q.rf I
  have e14 : I 14 = I 14 := q1.a (by omega)
  have e79 : I 79 = I 79 := q1.a (by omega)
  have e82 : I 82 = I 82 := q1.a (by omega)
  have e83 : I 83 = I 83 := q1.a (by omega)
  have e84 : I 84 = I 84 := q1.a (by omega)
  have e85 : I 85 = I 85 := q1.a (by omega)
  have e86 : I 86 = I 86 := q1.a (by omega)
  have e87 : I 87 = I 87 := q1.a (by omega)
  have e88 : I 88 = I 88 := q1.a (by omega)
  have e89 : I 89 = I 89 := q1.a (by omega)
  have e78 : I 78 = I 78 := rfl
  refine ⟨i + 1, ⟨nI_add i 1, lt 1 (by decide)⟩, hC _ _ _ _ _ (c_at (n := n) (by rw [e79]; exact hn) hn10 ?_)⟩
  refine ⟨fun _ => hV _ _ _ _ _ _ _ (next _ _ (q1.lw h)), fun ne => absurd ?_ ne⟩
  rfl
set_option maxRecDepth 100000 in
theorem lw_c10 (h : lw I rw u ln) (hN : ln 14 = N) (hi : i + 6 ≤ N) (next : ∀ J rw', lw J rw' u ln → sx_V 229 (d + 68) (mc + 3) (ms + 196) K 1432 [(0, .ref 14), (1, .ref 15), (2, .ref 78), (3, .int (nI i))] [] J (sx_run rw' (3 * u) ln)) :
    sx_V 229 (d + 68) (mc + 3) (ms + 196) K 536 [(0, .ref 14), (1, .ref 15), (2, .ref 78), (3, .int (nI i))] [] I (sx_run rw (3 * u) ln) := by
  obtain ⟨⟨hb, hs, htx⟩, -, ⟨hg, hgo⟩, ⟨hl, hlo⟩, -, -, -⟩ := id h
  obtain ⟨hv, t0, r0, hnt, ht0, -, -⟩ := id hs
  obtain ⟨⟨n, hn, hn10⟩, -⟩ := id hv
  have hT := htx.tn
  have lt : ∀ k, k < 6 → i + k < ln 14 := fun k hk => by omega
  refine sx_go m229 100 rfl (fun VV CC hV hC => ?_)
  refine ⟨i + 1, ⟨nI_add i 1, lt 1 (by decide)⟩, hC _ _ _ _ _ (c1_seen hb hv ?_)⟩
  have q1 := lw_q.rf I
  have e14 : I 14 = I 14 := q1.a (by omega)
  have e79 : I 79 = I 79 := q1.a (by omega)
  have e82 : I 82 = I 82 := q1.a (by omega)
  have e83 : I 83 = I 83 := q1.a (by omega)
  have e84 : I 84 = I 84 := q1.a (by omega)
  have e85 : I 85 = I 85 := q1.a (by omega)
  have e86 : I 86 = I 86 := q1.a (by omega)
  have e87 : I 87 = I 87 := q1.a (by omega)
  have e88 : I 88 = I 88 := q1.a (by omega)
  have e89 : I 89 = I 89 := q1.a (by omega)
  have e78 : I 78 = I 78 := rfl
  refine ⟨i + 1, ⟨nI_add i 1, lt 1 (by decide)⟩, hC _ _ _ _ _ (c_seen (n := n) (by rw [e79]; exact hn) hn10 ?_)⟩
  refine ⟨fun _ => hV _ _ _ _ _ _ _ (next _ _ (q1.lw h)), fun ne => absurd ?_ ne⟩
  rfl
set_option maxRecDepth 100000 in
theorem lw_c12 (h : lw I rw u ln) (hN : ln 14 = N) (hi : i + 6 ≤ N) (next : ∀ J rw', lw J rw' u ln → sx_V 229 (d + 68) (mc + 3) (ms + 196) K 1432 [(0, .ref 14), (1, .ref 15), (2, .ref 78), (3, .int (nI i))] [] J (sx_run rw' (3 * u) ln)) :
    sx_V 229 (d + 68) (mc + 3) (ms + 196) K 582 [(0, .ref 14), (1, .ref 15), (2, .ref 78), (3, .int (nI i))] [] I (sx_run rw (3 * u) ln) := by
  obtain ⟨⟨hb, hs, htx⟩, -, ⟨hg, hgo⟩, ⟨hl, hlo⟩, -, -, -⟩ := id h
  obtain ⟨hv, t0, r0, hnt, ht0, -, -⟩ := id hs
  obtain ⟨⟨n, hn, hn10⟩, -⟩ := id hv
  have hT := htx.tn
  have lt : ∀ k, k < 6 → i + k < ln 14 := fun k hk => by omega
  refine sx_go m229 100 rfl (fun VV CC hV hC => ?_)
  refine ⟨i + 1, ⟨nI_add i 1, lt 1 (by decide)⟩, hC _ _ _ _ _ (c1_border hb hv htx hnt (by omega) (fun J hJ => ?_))⟩
  have q1 := lw_q.k hJ
  have e14 : J 14 = I 14 := q1.a (by omega)
  have e79 : J 79 = I 79 := q1.a (by omega)
  have e82 : J 82 = I 82 := q1.a (by omega)
  have e83 : J 83 = I 83 := q1.a (by omega)
  have e84 : J 84 = I 84 := q1.a (by omega)
  have e85 : J 85 = I 85 := q1.a (by omega)
  have e86 : J 86 = I 86 := q1.a (by omega)
  have e87 : J 87 = I 87 := q1.a (by omega)
  have e88 : J 88 = I 88 := q1.a (by omega)
  have e89 : J 89 = I 89 := q1.a (by omega)
  refine ⟨i + 1, ⟨nI_add i 1, lt 1 (by decide)⟩, hC _ _ _ _ _ (c_border (n := n) (by rw [e79]; exact hn) hn10 (by rw [e79]; exact htx.tx) (fun J2 hJ2 => ?_))⟩
  refine ⟨fun _ => hV _ _ _ _ _ _ _ (next _ _ ((q1.tr (lw_q.sc hJ2)).lw h)), fun ne => absurd ?_ ne⟩
  simp only [e79, e14, e82, e83, e84, e85, e86, e87, e88, e89]
set_option maxRecDepth 100000 in
theorem lw_c13 (h : lw I rw u ln) (hN : ln 14 = N) (hi : i + 6 ≤ N) (next : ∀ J rw', lw J rw' u ln → sx_V 229 (d + 68) (mc + 3) (ms + 196) K 1432 [(0, .ref 14), (1, .ref 15), (2, .ref 78), (3, .int (nI i))] [] J (sx_run rw' (3 * u) ln)) :
    sx_V 229 (d + 68) (mc + 3) (ms + 196) K 605 [(0, .ref 14), (1, .ref 15), (2, .ref 78), (3, .int (nI i))] [] I (sx_run rw (3 * u) ln) := by
  obtain ⟨⟨hb, hs, htx⟩, -, ⟨hg, hgo⟩, ⟨hl, hlo⟩, -, -, -⟩ := id h
  obtain ⟨hv, t0, r0, hnt, ht0, -, -⟩ := id hs
  obtain ⟨⟨n, hn, hn10⟩, -⟩ := id hv
  have hT := htx.tn
  have lt : ∀ k, k < 6 → i + k < ln 14 := fun k hk => by omega
  refine sx_go m229 100 rfl (fun VV CC hV hC => ?_)
  refine ⟨i + 1, ⟨nI_add i 1, lt 1 (by decide)⟩, i + 2, ⟨nI_add i 2, lt 2 (by decide)⟩, hC _ _ _ _ _ (c1_covers hb hv ?_)⟩
  have q1 := lw_q.rf I
  have e14 : I 14 = I 14 := q1.a (by omega)
  have e79 : I 79 = I 79 := q1.a (by omega)
  have e82 : I 82 = I 82 := q1.a (by omega)
  have e83 : I 83 = I 83 := q1.a (by omega)
  have e84 : I 84 = I 84 := q1.a (by omega)
  have e85 : I 85 = I 85 := q1.a (by omega)
  have e86 : I 86 = I 86 := q1.a (by omega)
  have e87 : I 87 = I 87 := q1.a (by omega)
  have e88 : I 88 = I 88 := q1.a (by omega)
  have e89 : I 89 = I 89 := q1.a (by omega)
  have e78 : I 78 = I 78 := rfl
  refine ⟨i + 1, ⟨nI_add i 1, lt 1 (by decide)⟩, i + 2, ⟨nI_add i 2, lt 2 (by decide)⟩, hC _ _ _ _ _ (c_covers (n := n) (by rw [e79]; exact hn) hn10 ?_)⟩
  refine ⟨fun _ => hV _ _ _ _ _ _ _ (next _ _ (q1.lw h)), fun ne => absurd ?_ ne⟩
  rfl
set_option maxRecDepth 100000 in
theorem lw_c14 (h : lw I rw u ln) (hN : ln 14 = N) (hi : i + 6 ≤ N) (next : ∀ J rw', lw J rw' u ln → sx_V 229 (d + 68) (mc + 3) (ms + 196) K 1432 [(0, .ref 14), (1, .ref 15), (2, .ref 78), (3, .int (nI i))] [] J (sx_run rw' (3 * u) ln)) :
    sx_V 229 (d + 68) (mc + 3) (ms + 196) K 638 [(0, .ref 14), (1, .ref 15), (2, .ref 78), (3, .int (nI i))] [] I (sx_run rw (3 * u) ln) := by
  obtain ⟨⟨hb, hs, htx⟩, -, ⟨hg, hgo⟩, ⟨hl, hlo⟩, -, -, -⟩ := id h
  obtain ⟨hv, t0, r0, hnt, ht0, -, -⟩ := id hs
  obtain ⟨⟨n, hn, hn10⟩, -⟩ := id hv
  have hT := htx.tn
  have lt : ∀ k, k < 6 → i + k < ln 14 := fun k hk => by omega
  refine sx_go m229 100 rfl (fun VV CC hV hC => ?_)
  refine hC _ _ _ _ _ (c1_fewest hb hv ?_)
  have q1 := lw_q.rf I
  have e14 : I 14 = I 14 := q1.a (by omega)
  have e79 : I 79 = I 79 := q1.a (by omega)
  have e82 : I 82 = I 82 := q1.a (by omega)
  have e83 : I 83 = I 83 := q1.a (by omega)
  have e84 : I 84 = I 84 := q1.a (by omega)
  have e85 : I 85 = I 85 := q1.a (by omega)
  have e86 : I 86 = I 86 := q1.a (by omega)
  have e87 : I 87 = I 87 := q1.a (by omega)
  have e88 : I 88 = I 88 := q1.a (by omega)
  have e89 : I 89 = I 89 := q1.a (by omega)
  have e78 : I 78 = I 78 := rfl
  refine hC _ _ _ _ _ (c_fewest (n := n) (by rw [e79]; exact hn) hn10 ?_)
  refine ⟨fun _ => hV _ _ _ _ _ _ _ (next _ _ (q1.lw h)), fun ne => absurd ?_ ne⟩
  rfl
set_option maxRecDepth 100000 in
theorem lw_c15 (h : lw I rw u ln) (hN : ln 14 = N) (hi : i + 6 ≤ N) (next : ∀ J rw', lw J rw' u ln → sx_V 229 (d + 68) (mc + 3) (ms + 196) K 1432 [(0, .ref 14), (1, .ref 15), (2, .ref 78), (3, .int (nI i))] [] J (sx_run rw' (3 * u) ln)) :
    sx_V 229 (d + 68) (mc + 3) (ms + 196) K 651 [(0, .ref 14), (1, .ref 15), (2, .ref 78), (3, .int (nI i))] [] I (sx_run rw (3 * u) ln) := by
  obtain ⟨⟨hb, hs, htx⟩, -, ⟨hg, hgo⟩, ⟨hl, hlo⟩, -, -, -⟩ := id h
  obtain ⟨hv, t0, r0, hnt, ht0, -, -⟩ := id hs
  obtain ⟨⟨n, hn, hn10⟩, -⟩ := id hv
  have hT := htx.tn
  have lt : ∀ k, k < 6 → i + k < ln 14 := fun k hk => by omega
  refine sx_go m229 100 rfl (fun VV CC hV hC => ?_)
  refine ⟨i + 1, ⟨nI_add i 1, lt 1 (by decide)⟩, i + 2, ⟨nI_add i 2, lt 2 (by decide)⟩, hC _ _ _ _ _ (c1_behind hb hv htx hnt ht0 (fun J rw' hJ hr => ?_))⟩
  have q1 := lw_q.f37 hJ
  have e14 : J 14 = I 14 := q1.a (by omega)
  have e79 : J 79 = I 79 := q1.a (by omega)
  have e82 : J 82 = I 82 := q1.a (by omega)
  have e83 : J 83 = I 83 := q1.a (by omega)
  have e84 : J 84 = I 84 := q1.a (by omega)
  have e85 : J 85 = I 85 := q1.a (by omega)
  have e86 : J 86 = I 86 := q1.a (by omega)
  have e87 : J 87 = I 87 := q1.a (by omega)
  have e88 : J 88 = I 88 := q1.a (by omega)
  have e89 : J 89 = I 89 := q1.a (by omega)
  refine ⟨i + 1, ⟨nI_add i 1, lt 1 (by decide)⟩, i + 2, ⟨nI_add i 2, lt 2 (by decide)⟩, hC _ _ _ _ _ (c_behind (n := n) (by rw [e79]; exact hn) hn10 (by rw [e79]; exact htx.tx) (fun J2 hJ2 => ?_))⟩
  refine ⟨fun _ => hV _ _ _ _ _ _ _ (next _ _ ((q1.tr (lw_q.sd hJ2)).lw (h.rows hr))), fun ne => absurd ?_ ne⟩
  simp only [e79, e14, e82, e83, e84, e85, e86, e87, e88, e89]
set_option maxRecDepth 100000 in
theorem lw_c16 (h : lw I rw u ln) (hN : ln 14 = N) (hi : i + 6 ≤ N) (next : ∀ J rw', lw J rw' u ln → sx_V 229 (d + 68) (mc + 3) (ms + 196) K 1432 [(0, .ref 14), (1, .ref 15), (2, .ref 78), (3, .int (nI i))] [] J (sx_run rw' (3 * u) ln)) :
    sx_V 229 (d + 68) (mc + 3) (ms + 196) K 684 [(0, .ref 14), (1, .ref 15), (2, .ref 78), (3, .int (nI i))] [] I (sx_run rw (3 * u) ln) := by
  obtain ⟨⟨hb, hs, htx⟩, -, ⟨hg, hgo⟩, ⟨hl, hlo⟩, -, -, -⟩ := id h
  obtain ⟨hv, t0, r0, hnt, ht0, -, -⟩ := id hs
  obtain ⟨⟨n, hn, hn10⟩, -⟩ := id hv
  have hT := htx.tn
  have lt : ∀ k, k < 6 → i + k < ln 14 := fun k hk => by omega
  refine sx_go m229 100 rfl (fun VV CC hV hC => ?_)
  refine hC _ _ _ _ _ (c1_bluff hb hv htx hnt ht0 (fun J rw' hJ hr => ?_))
  have q1 := lw_q.f37 hJ
  have e14 : J 14 = I 14 := q1.a (by omega)
  have e79 : J 79 = I 79 := q1.a (by omega)
  have e82 : J 82 = I 82 := q1.a (by omega)
  have e83 : J 83 = I 83 := q1.a (by omega)
  have e84 : J 84 = I 84 := q1.a (by omega)
  have e85 : J 85 = I 85 := q1.a (by omega)
  have e86 : J 86 = I 86 := q1.a (by omega)
  have e87 : J 87 = I 87 := q1.a (by omega)
  have e88 : J 88 = I 88 := q1.a (by omega)
  have e89 : J 89 = I 89 := q1.a (by omega)
  refine hC _ _ _ _ _ (c_bluff (n := n) (by rw [e79]; exact hn) hn10 (by rw [e79]; exact htx.tx) (by rw [e79]; exact hs.rf) (fun J2 hJ2 => ?_))
  refine ⟨fun _ => hV _ _ _ _ _ _ _ (next _ _ ((q1.tr (lw_q.sd hJ2)).lw (h.rows hr))), fun ne => absurd ?_ ne⟩
  simp only [e79, e14, e82, e83, e84, e85, e86, e87, e88, e89]
set_option maxRecDepth 100000 in
theorem lw_c17 (h : lw I rw u ln) (hN : ln 14 = N) (hi : i + 6 ≤ N) (next : ∀ J rw', lw J rw' u ln → sx_V 229 (d + 68) (mc + 3) (ms + 196) K 1432 [(0, .ref 14), (1, .ref 15), (2, .ref 78), (3, .int (nI i))] [] J (sx_run rw' (3 * u) ln)) :
    sx_V 229 (d + 68) (mc + 3) (ms + 196) K 697 [(0, .ref 14), (1, .ref 15), (2, .ref 78), (3, .int (nI i))] [] I (sx_run rw (3 * u) ln) := by
  obtain ⟨⟨hb, hs, htx⟩, -, ⟨hg, hgo⟩, ⟨hl, hlo⟩, -, -, -⟩ := id h
  obtain ⟨hv, t0, r0, hnt, ht0, -, -⟩ := id hs
  obtain ⟨⟨n, hn, hn10⟩, -⟩ := id hv
  have hT := htx.tn
  have lt : ∀ k, k < 6 → i + k < ln 14 := fun k hk => by omega
  refine sx_go m229 100 rfl (fun VV CC hV hC => ?_)
  refine ⟨i + 1, ⟨nI_add i 1, lt 1 (by decide)⟩, i + 2, ⟨nI_add i 2, lt 2 (by decide)⟩, hC _ _ _ _ _ (c1_washed hb hv htx hnt ht0 (fun J rw' hJ hr => ?_))⟩
  have q1 := lw_q.f37 hJ
  have e14 : J 14 = I 14 := q1.a (by omega)
  have e79 : J 79 = I 79 := q1.a (by omega)
  have e82 : J 82 = I 82 := q1.a (by omega)
  have e83 : J 83 = I 83 := q1.a (by omega)
  have e84 : J 84 = I 84 := q1.a (by omega)
  have e85 : J 85 = I 85 := q1.a (by omega)
  have e86 : J 86 = I 86 := q1.a (by omega)
  have e87 : J 87 = I 87 := q1.a (by omega)
  have e88 : J 88 = I 88 := q1.a (by omega)
  have e89 : J 89 = I 89 := q1.a (by omega)
  refine ⟨i + 1, ⟨nI_add i 1, lt 1 (by decide)⟩, i + 2, ⟨nI_add i 2, lt 2 (by decide)⟩, hC _ _ _ _ _ (c_washed (n := n) (by rw [e79]; exact hn) hn10 (by rw [e79]; exact htx.tx) (fun J2 hJ2 => ?_))⟩
  refine ⟨fun _ => hV _ _ _ _ _ _ _ (next _ _ ((q1.tr (lw_q.sd hJ2)).lw (h.rows hr))), fun ne => absurd ?_ ne⟩
  simp only [e79, e14, e82, e83, e84, e85, e86, e87, e88, e89]
set_option maxRecDepth 100000 in
theorem lw_c18 (h : lw I rw u ln) (hN : ln 14 = N) (hi : i + 6 ≤ N) (next : ∀ J rw', lw J rw' u ln → sx_V 229 (d + 68) (mc + 3) (ms + 196) K 1432 [(0, .ref 14), (1, .ref 15), (2, .ref 78), (3, .int (nI i))] [] J (sx_run rw' (3 * u) ln)) :
    sx_V 229 (d + 68) (mc + 3) (ms + 196) K 730 [(0, .ref 14), (1, .ref 15), (2, .ref 78), (3, .int (nI i))] [] I (sx_run rw (3 * u) ln) := by
  obtain ⟨⟨hb, hs, htx⟩, -, ⟨hg, hgo⟩, ⟨hl, hlo⟩, -, -, -⟩ := id h
  obtain ⟨hv, t0, r0, hnt, ht0, -, -⟩ := id hs
  obtain ⟨⟨n, hn, hn10⟩, -⟩ := id hv
  have hT := htx.tn
  have lt : ∀ k, k < 6 → i + k < ln 14 := fun k hk => by omega
  refine sx_go m229 100 rfl (fun VV CC hV hC => ?_)
  refine ⟨i + 1, ⟨nI_add i 1, lt 1 (by decide)⟩, hC _ _ _ _ _ (c1_needed hb hv htx hnt ht0 (fun J rw' hJ hr => ?_))⟩
  have q1 := lw_q.f37 hJ
  have e14 : J 14 = I 14 := q1.a (by omega)
  have e79 : J 79 = I 79 := q1.a (by omega)
  have e82 : J 82 = I 82 := q1.a (by omega)
  have e83 : J 83 = I 83 := q1.a (by omega)
  have e84 : J 84 = I 84 := q1.a (by omega)
  have e85 : J 85 = I 85 := q1.a (by omega)
  have e86 : J 86 = I 86 := q1.a (by omega)
  have e87 : J 87 = I 87 := q1.a (by omega)
  have e88 : J 88 = I 88 := q1.a (by omega)
  have e89 : J 89 = I 89 := q1.a (by omega)
  refine ⟨i + 1, ⟨nI_add i 1, lt 1 (by decide)⟩, hC _ _ _ _ _ (c_needed (n := n) (by rw [e79]; exact hn) hn10 (by rw [e79]; exact htx.tx) (by rw [e79]; exact hs.rf) (fun J2 hJ2 => ?_))⟩
  refine ⟨fun _ => hV _ _ _ _ _ _ _ (next _ _ ((q1.tr (lw_q.sd hJ2)).lw (h.rows hr))), fun ne => absurd ?_ ne⟩
  simp only [e79, e14, e82, e83, e84, e85, e86, e87, e88, e89]
set_option maxRecDepth 100000 in
theorem lw_c19 (h : lw I rw u ln) (hN : ln 14 = N) (hi : i + 6 ≤ N) (next : ∀ J rw', lw J rw' u ln → sx_V 229 (d + 68) (mc + 3) (ms + 196) K 1432 [(0, .ref 14), (1, .ref 15), (2, .ref 78), (3, .int (nI i))] [] J (sx_run rw' (3 * u) ln)) :
    sx_V 229 (d + 68) (mc + 3) (ms + 196) K 753 [(0, .ref 14), (1, .ref 15), (2, .ref 78), (3, .int (nI i))] [] I (sx_run rw (3 * u) ln) := by
  obtain ⟨⟨hb, hs, htx⟩, -, ⟨hg, hgo⟩, ⟨hl, hlo⟩, -, -, -⟩ := id h
  obtain ⟨hv, t0, r0, hnt, ht0, -, -⟩ := id hs
  obtain ⟨⟨n, hn, hn10⟩, -⟩ := id hv
  have hT := htx.tn
  have lt : ∀ k, k < 6 → i + k < ln 14 := fun k hk => by omega
  refine sx_go m229 100 rfl (fun VV CC hV hC => ?_)
  refine ⟨i + 1, ⟨nI_add i 1, lt 1 (by decide)⟩, i + 2, ⟨nI_add i 2, lt 2 (by decide)⟩, i + 3, ⟨nI_add i 3, lt 3 (by decide)⟩, hC _ _ _ _ _ (c1_becomes hb hv htx hnt ht0 (fun J rw' hJ hr => ?_))⟩
  have q1 := lw_q.f37 hJ
  have e14 : J 14 = I 14 := q1.a (by omega)
  have e79 : J 79 = I 79 := q1.a (by omega)
  have e82 : J 82 = I 82 := q1.a (by omega)
  have e83 : J 83 = I 83 := q1.a (by omega)
  have e84 : J 84 = I 84 := q1.a (by omega)
  have e85 : J 85 = I 85 := q1.a (by omega)
  have e86 : J 86 = I 86 := q1.a (by omega)
  have e87 : J 87 = I 87 := q1.a (by omega)
  have e88 : J 88 = I 88 := q1.a (by omega)
  have e89 : J 89 = I 89 := q1.a (by omega)
  refine ⟨i + 1, ⟨nI_add i 1, lt 1 (by decide)⟩, i + 2, ⟨nI_add i 2, lt 2 (by decide)⟩, i + 3, ⟨nI_add i 3, lt 3 (by decide)⟩, hC _ _ _ _ _ (c_becomes (n := n) (by rw [e79]; exact hn) hn10 (by rw [e79]; exact htx.tx) (fun J2 hJ2 => ?_))⟩
  refine ⟨fun _ => hV _ _ _ _ _ _ _ (next _ _ ((q1.tr (lw_q.sd hJ2)).lw (h.rows hr))), fun ne => absurd ?_ ne⟩
  simp only [e79, e14, e82, e83, e84, e85, e86, e87, e88, e89]
set_option maxRecDepth 100000 in
theorem lw_c20 (h : lw I rw u ln) (hN : ln 14 = N) (hi : i + 6 ≤ N) (next : ∀ J rw', lw J rw' u ln → sx_V 229 (d + 68) (mc + 3) (ms + 196) K 1432 [(0, .ref 14), (1, .ref 15), (2, .ref 78), (3, .int (nI i))] [] J (sx_run rw' (3 * u) ln)) :
    sx_V 229 (d + 68) (mc + 3) (ms + 196) K 796 [(0, .ref 14), (1, .ref 15), (2, .ref 78), (3, .int (nI i))] [] I (sx_run rw (3 * u) ln) := by
  obtain ⟨⟨hb, hs, htx⟩, -, ⟨hg, hgo⟩, ⟨hl, hlo⟩, -, -, -⟩ := id h
  obtain ⟨hv, t0, r0, hnt, ht0, -, -⟩ := id hs
  obtain ⟨⟨n, hn, hn10⟩, -⟩ := id hv
  have hT := htx.tn
  have lt : ∀ k, k < 6 → i + k < ln 14 := fun k hk => by omega
  refine sx_go m229 100 rfl (fun VV CC hV hC => ?_)
  refine ⟨i + 1, ⟨nI_add i 1, lt 1 (by decide)⟩, i + 2, ⟨nI_add i 2, lt 2 (by decide)⟩, hC _ _ _ _ _ (c1_like hb hv htx hnt ht0 hg hgo (fun J rw' hJ hr => ?_))⟩
  have q1 := lw_q.f54 hJ
  have e14 : J 14 = I 14 := q1.a (by omega)
  have e79 : J 79 = I 79 := q1.a (by omega)
  have e82 : J 82 = I 82 := q1.a (by omega)
  have e83 : J 83 = I 83 := q1.a (by omega)
  have e84 : J 84 = I 84 := q1.a (by omega)
  have e85 : J 85 = I 85 := q1.a (by omega)
  have e86 : J 86 = I 86 := q1.a (by omega)
  have e87 : J 87 = I 87 := q1.a (by omega)
  have e88 : J 88 = I 88 := q1.a (by omega)
  have e89 : J 89 = I 89 := q1.a (by omega)
  refine ⟨i + 1, ⟨nI_add i 1, lt 1 (by decide)⟩, i + 2, ⟨nI_add i 2, lt 2 (by decide)⟩, hC _ _ _ _ _ (c_like (n := n) (by rw [e79]; exact hn) hn10 (by rw [e79]; exact htx.tx) (by rw [e83]; exact fun j hj => (hgo j hj).2.1) (fun J2 hJ2 => ?_))⟩
  refine ⟨fun _ => hV _ _ _ _ _ _ _ (next _ _ ((q1.tr (lw_q.sd hJ2)).lw (h.rows hr))), fun ne => absurd ?_ ne⟩
  simp only [e79, e14, e82, e83, e84, e85, e86, e87, e88, e89]
set_option maxRecDepth 100000 in
theorem lw_c21 (h : lw I rw u ln) (hN : ln 14 = N) (hi : i + 6 ≤ N) (next : ∀ J rw', lw J rw' u ln → sx_V 229 (d + 68) (mc + 3) (ms + 196) K 1432 [(0, .ref 14), (1, .ref 15), (2, .ref 78), (3, .int (nI i))] [] J (sx_run rw' (3 * u) ln)) :
    sx_V 229 (d + 68) (mc + 3) (ms + 196) K 829 [(0, .ref 14), (1, .ref 15), (2, .ref 78), (3, .int (nI i))] [] I (sx_run rw (3 * u) ln) := by
  obtain ⟨⟨hb, hs, htx⟩, -, ⟨hg, hgo⟩, ⟨hl, hlo⟩, -, -, -⟩ := id h
  obtain ⟨hv, t0, r0, hnt, ht0, -, -⟩ := id hs
  obtain ⟨⟨n, hn, hn10⟩, -⟩ := id hv
  have hT := htx.tn
  have lt : ∀ k, k < 6 → i + k < ln 14 := fun k hk => by omega
  refine sx_go m229 100 rfl (fun VV CC hV hC => ?_)
  refine hC _ _ _ _ _ (c1_fee hb htx (fun J hJ => ?_))
  have q1 := lw_q.k hJ
  have e14 : J 14 = I 14 := q1.a (by omega)
  have e79 : J 79 = I 79 := q1.a (by omega)
  have e82 : J 82 = I 82 := q1.a (by omega)
  have e83 : J 83 = I 83 := q1.a (by omega)
  have e84 : J 84 = I 84 := q1.a (by omega)
  have e85 : J 85 = I 85 := q1.a (by omega)
  have e86 : J 86 = I 86 := q1.a (by omega)
  have e87 : J 87 = I 87 := q1.a (by omega)
  have e88 : J 88 = I 88 := q1.a (by omega)
  have e89 : J 89 = I 89 := q1.a (by omega)
  refine hC _ _ _ _ _ (c_fee (by rw [e79]; exact htx.tx) (fun J2 hJ2 => ?_))
  refine ⟨fun _ => hV _ _ _ _ _ _ _ (next _ _ ((q1.tr (lw_q.sc hJ2)).lw h)), fun ne => absurd ?_ ne⟩
  simp only [e79, e14, e82, e83, e84, e85, e86, e87, e88, e89]
set_option maxRecDepth 100000 in
theorem lw_c22 (h : lw I rw u ln) (hN : ln 14 = N) (hi : i + 6 ≤ N) (next : ∀ J rw', lw J rw' u ln → sx_V 229 (d + 68) (mc + 3) (ms + 196) K 1432 [(0, .ref 14), (1, .ref 15), (2, .ref 78), (3, .int (nI i))] [] J (sx_run rw' (3 * u) ln)) :
    sx_V 229 (d + 68) (mc + 3) (ms + 196) K 842 [(0, .ref 14), (1, .ref 15), (2, .ref 78), (3, .int (nI i))] [] I (sx_run rw (3 * u) ln) := by
  obtain ⟨⟨hb, hs, htx⟩, -, ⟨hg, hgo⟩, ⟨hl, hlo⟩, -, -, -⟩ := id h
  obtain ⟨hv, t0, r0, hnt, ht0, -, -⟩ := id hs
  obtain ⟨⟨n, hn, hn10⟩, -⟩ := id hv
  have hT := htx.tn
  have lt : ∀ k, k < 6 → i + k < ln 14 := fun k hk => by omega
  refine sx_go m229 100 rfl (fun VV CC hV hC => ?_)
  refine ⟨i + 1, ⟨nI_add i 1, lt 1 (by decide)⟩, hC _ _ _ _ _ (c1_fine hb hv htx (fun J hJ => ?_))⟩
  have q1 := lw_q.k hJ
  have e14 : J 14 = I 14 := q1.a (by omega)
  have e79 : J 79 = I 79 := q1.a (by omega)
  have e82 : J 82 = I 82 := q1.a (by omega)
  have e83 : J 83 = I 83 := q1.a (by omega)
  have e84 : J 84 = I 84 := q1.a (by omega)
  have e85 : J 85 = I 85 := q1.a (by omega)
  have e86 : J 86 = I 86 := q1.a (by omega)
  have e87 : J 87 = I 87 := q1.a (by omega)
  have e88 : J 88 = I 88 := q1.a (by omega)
  have e89 : J 89 = I 89 := q1.a (by omega)
  refine ⟨i + 1, ⟨nI_add i 1, lt 1 (by decide)⟩, hC _ _ _ _ _ (c_fine (n := n) (by rw [e79]; exact hn) hn10 (by rw [e79]; exact htx.tx) (fun J2 hJ2 => ?_))⟩
  refine ⟨fun _ => hV _ _ _ _ _ _ _ (next _ _ ((q1.tr (lw_q.sc hJ2)).lw h)), fun ne => absurd ?_ ne⟩
  simp only [e79, e14, e82, e83, e84, e85, e86, e87, e88, e89]
set_option maxRecDepth 100000 in
theorem lw_c26 (h : lw I rw u ln) (hN : ln 14 = N) (hi : i + 6 ≤ N) (next : ∀ J rw', lw J rw' u ln → sx_V 229 (d + 68) (mc + 3) (ms + 196) K 1432 [(0, .ref 14), (1, .ref 15), (2, .ref 78), (3, .int (nI i))] [] J (sx_run rw' (3 * u) ln)) :
    sx_V 229 (d + 68) (mc + 3) (ms + 196) K 944 [(0, .ref 14), (1, .ref 15), (2, .ref 78), (3, .int (nI i))] [] I (sx_run rw (3 * u) ln) := by
  obtain ⟨⟨hb, hs, htx⟩, -, ⟨hg, hgo⟩, ⟨hl, hlo⟩, -, -, -⟩ := id h
  obtain ⟨hv, t0, r0, hnt, ht0, -, -⟩ := id hs
  obtain ⟨⟨n, hn, hn10⟩, -⟩ := id hv
  have hT := htx.tn
  have lt : ∀ k, k < 6 → i + k < ln 14 := fun k hk => by omega
  refine sx_go m229 100 rfl (fun VV CC hV hC => ?_)
  refine ⟨i + 1, ⟨nI_add i 1, lt 1 (by decide)⟩, i + 2, ⟨nI_add i 2, lt 2 (by decide)⟩, hC _ _ _ _ _ (c1_textTold hb htx ?_)⟩
  have q1 := lw_q.rf I
  have e14 : I 14 = I 14 := q1.a (by omega)
  have e79 : I 79 = I 79 := q1.a (by omega)
  have e82 : I 82 = I 82 := q1.a (by omega)
  have e83 : I 83 = I 83 := q1.a (by omega)
  have e84 : I 84 = I 84 := q1.a (by omega)
  have e85 : I 85 = I 85 := q1.a (by omega)
  have e86 : I 86 = I 86 := q1.a (by omega)
  have e87 : I 87 = I 87 := q1.a (by omega)
  have e88 : I 88 = I 88 := q1.a (by omega)
  have e89 : I 89 = I 89 := q1.a (by omega)
  have e78 : I 78 = I 78 := rfl
  refine ⟨i + 1, ⟨nI_add i 1, lt 1 (by decide)⟩, i + 2, ⟨nI_add i 2, lt 2 (by decide)⟩, hC _ _ _ _ _ (c_textTold hT.choose_spec.1 hT.choose_spec.2 ?_)⟩
  refine ⟨fun _ => hV _ _ _ _ _ _ _ (next _ _ (q1.lw h)), fun ne => absurd ?_ ne⟩
  rfl
set_option maxRecDepth 100000 in
theorem lw_c27 (h : lw I rw u ln) (hN : ln 14 = N) (hi : i + 6 ≤ N) (next : ∀ J rw', lw J rw' u ln → sx_V 229 (d + 68) (mc + 3) (ms + 196) K 1432 [(0, .ref 14), (1, .ref 15), (2, .ref 78), (3, .int (nI i))] [] J (sx_run rw' (3 * u) ln)) :
    sx_V 229 (d + 68) (mc + 3) (ms + 196) K 977 [(0, .ref 14), (1, .ref 15), (2, .ref 78), (3, .int (nI i))] [] I (sx_run rw (3 * u) ln) := by
  obtain ⟨⟨hb, hs, htx⟩, -, ⟨hg, hgo⟩, ⟨hl, hlo⟩, -, -, -⟩ := id h
  obtain ⟨hv, t0, r0, hnt, ht0, -, -⟩ := id hs
  obtain ⟨⟨n, hn, hn10⟩, -⟩ := id hv
  have hT := htx.tn
  have lt : ∀ k, k < 6 → i + k < ln 14 := fun k hk => by omega
  refine sx_go m229 100 rfl (fun VV CC hV hC => ?_)
  refine ⟨i + 1, ⟨nI_add i 1, lt 1 (by decide)⟩, hC _ _ _ _ _ (c1_why hb ?_)⟩
  have q1 := lw_q.rf I
  have e14 : I 14 = I 14 := q1.a (by omega)
  have e79 : I 79 = I 79 := q1.a (by omega)
  have e82 : I 82 = I 82 := q1.a (by omega)
  have e83 : I 83 = I 83 := q1.a (by omega)
  have e84 : I 84 = I 84 := q1.a (by omega)
  have e85 : I 85 = I 85 := q1.a (by omega)
  have e86 : I 86 = I 86 := q1.a (by omega)
  have e87 : I 87 = I 87 := q1.a (by omega)
  have e88 : I 88 = I 88 := q1.a (by omega)
  have e89 : I 89 = I 89 := q1.a (by omega)
  have e78 : I 78 = I 78 := rfl
  refine ⟨i + 1, ⟨nI_add i 1, lt 1 (by decide)⟩, hC _ _ _ _ _ (c_why hT.choose_spec.1 hT.choose_spec.2 ?_)⟩
  refine ⟨fun _ => hV _ _ _ _ _ _ _ (next _ _ (q1.lw h)), fun ne => absurd ?_ ne⟩
  rfl
set_option maxRecDepth 100000 in
theorem lw_c31 (h : lw I rw u ln) (hN : ln 14 = N) (hi : i + 6 ≤ N) (next : ∀ J rw', lw J rw' u ln → sx_V 229 (d + 68) (mc + 3) (ms + 196) K 1432 [(0, .ref 14), (1, .ref 15), (2, .ref 78), (3, .int (nI i))] [] J (sx_run rw' (3 * u) ln)) :
    sx_V 229 (d + 68) (mc + 3) (ms + 196) K 1109 [(0, .ref 14), (1, .ref 15), (2, .ref 78), (3, .int (nI i))] [] I (sx_run rw (3 * u) ln) := by
  obtain ⟨⟨hb, hs, htx⟩, -, ⟨hg, hgo⟩, ⟨hl, hlo⟩, -, -, -⟩ := id h
  obtain ⟨hv, t0, r0, hnt, ht0, -, -⟩ := id hs
  obtain ⟨⟨n, hn, hn10⟩, -⟩ := id hv
  have hT := htx.tn
  have lt : ∀ k, k < 6 → i + k < ln 14 := fun k hk => by omega
  refine sx_go m229 100 rfl (fun VV CC hV hC => ?_)
  refine ⟨i + 1, ⟨nI_add i 1, lt 1 (by decide)⟩, hC _ _ _ _ _ (c1_reads hb hv hg hgo ?_)⟩
  have q1 := lw_q.rf I
  have e14 : I 14 = I 14 := q1.a (by omega)
  have e79 : I 79 = I 79 := q1.a (by omega)
  have e82 : I 82 = I 82 := q1.a (by omega)
  have e83 : I 83 = I 83 := q1.a (by omega)
  have e84 : I 84 = I 84 := q1.a (by omega)
  have e85 : I 85 = I 85 := q1.a (by omega)
  have e86 : I 86 = I 86 := q1.a (by omega)
  have e87 : I 87 = I 87 := q1.a (by omega)
  have e88 : I 88 = I 88 := q1.a (by omega)
  have e89 : I 89 = I 89 := q1.a (by omega)
  have e78 : I 78 = I 78 := rfl
  refine ⟨i + 1, ⟨nI_add i 1, lt 1 (by decide)⟩, hC _ _ _ _ _ (c_reads (n := n) (by rw [e79]; exact hn) hn10 (by rw [e83]; exact fun j hj => (hgo j hj).2.1) ?_)⟩
  refine ⟨fun _ => hV _ _ _ _ _ _ _ (next _ _ (q1.lw h)), fun ne => absurd ?_ ne⟩
  rfl
set_option maxRecDepth 100000 in
theorem lw_c34 (h : lw I rw u ln) (hN : ln 14 = N) (hi : i + 6 ≤ N) (next : ∀ J rw', lw J rw' u ln → sx_V 229 (d + 68) (mc + 3) (ms + 196) K 1432 [(0, .ref 14), (1, .ref 15), (2, .ref 78), (3, .int (nI i))] [] J (sx_run rw' (3 * u) ln)) :
    sx_V 229 (d + 68) (mc + 3) (ms + 196) K 1238 [(0, .ref 14), (1, .ref 15), (2, .ref 78), (3, .int (nI i))] [] I (sx_run rw (3 * u) ln) := by
  obtain ⟨⟨hb, hs, htx⟩, -, ⟨hg, hgo⟩, ⟨hl, hlo⟩, -, -, -⟩ := id h
  obtain ⟨hv, t0, r0, hnt, ht0, -, -⟩ := id hs
  obtain ⟨⟨n, hn, hn10⟩, -⟩ := id hv
  have hT := htx.tn
  have lt : ∀ k, k < 6 → i + k < ln 14 := fun k hk => by omega
  refine sx_go m229 100 rfl (fun VV CC hV hC => ?_)
  refine ⟨i + 1, ⟨nI_add i 1, lt 1 (by decide)⟩, i + 2, ⟨nI_add i 2, lt 2 (by decide)⟩, hC _ _ _ _ _ (c1_ask hl ?_)⟩
  have q1 := lw_q.rf I
  have e14 : I 14 = I 14 := q1.a (by omega)
  have e79 : I 79 = I 79 := q1.a (by omega)
  have e82 : I 82 = I 82 := q1.a (by omega)
  have e83 : I 83 = I 83 := q1.a (by omega)
  have e84 : I 84 = I 84 := q1.a (by omega)
  have e85 : I 85 = I 85 := q1.a (by omega)
  have e86 : I 86 = I 86 := q1.a (by omega)
  have e87 : I 87 = I 87 := q1.a (by omega)
  have e88 : I 88 = I 88 := q1.a (by omega)
  have e89 : I 89 = I 89 := q1.a (by omega)
  have e78 : I 78 = I 78 := rfl
  refine ⟨i + 1, ⟨nI_add i 1, lt 1 (by decide)⟩, i + 2, ⟨nI_add i 2, lt 2 (by decide)⟩, hC _ _ _ _ _ (c_ask ?_)⟩
  refine ⟨fun _ => hV _ _ _ _ _ _ _ (next _ _ (q1.lw h)), fun ne => absurd ?_ ne⟩
  rfl
set_option maxRecDepth 100000 in
theorem lw_c35 (h : lw I rw u ln) (hN : ln 14 = N) (hi : i + 6 ≤ N) (next : ∀ J rw', lw J rw' u ln → sx_V 229 (d + 68) (mc + 3) (ms + 196) K 1432 [(0, .ref 14), (1, .ref 15), (2, .ref 78), (3, .int (nI i))] [] J (sx_run rw' (3 * u) ln)) :
    sx_V 229 (d + 68) (mc + 3) (ms + 196) K 1271 [(0, .ref 14), (1, .ref 15), (2, .ref 78), (3, .int (nI i))] [] I (sx_run rw (3 * u) ln) := by
  obtain ⟨⟨hb, hs, htx⟩, -, ⟨hg, hgo⟩, ⟨hl, hlo⟩, -, -, -⟩ := id h
  obtain ⟨hv, t0, r0, hnt, ht0, -, -⟩ := id hs
  obtain ⟨⟨n, hn, hn10⟩, -⟩ := id hv
  have hT := htx.tn
  have lt : ∀ k, k < 6 → i + k < ln 14 := fun k hk => by omega
  refine sx_go m229 100 rfl (fun VV CC hV hC => ?_)
  refine ⟨i + 1, ⟨nI_add i 1, lt 1 (by decide)⟩, i + 2, ⟨nI_add i 2, lt 2 (by decide)⟩, hC _ _ _ _ _ (c1_item hl hlo ?_)⟩
  have q1 := lw_q.rf I
  have e14 : I 14 = I 14 := q1.a (by omega)
  have e79 : I 79 = I 79 := q1.a (by omega)
  have e82 : I 82 = I 82 := q1.a (by omega)
  have e83 : I 83 = I 83 := q1.a (by omega)
  have e84 : I 84 = I 84 := q1.a (by omega)
  have e85 : I 85 = I 85 := q1.a (by omega)
  have e86 : I 86 = I 86 := q1.a (by omega)
  have e87 : I 87 = I 87 := q1.a (by omega)
  have e88 : I 88 = I 88 := q1.a (by omega)
  have e89 : I 89 = I 89 := q1.a (by omega)
  have e78 : I 78 = I 78 := rfl
  refine ⟨i + 1, ⟨nI_add i 1, lt 1 (by decide)⟩, i + 2, ⟨nI_add i 2, lt 2 (by decide)⟩, hC _ _ _ _ _ (c_item (by rw [e88]; exact fun j hj => (hlo j hj).2) ?_)⟩
  refine ⟨fun _ => hV _ _ _ _ _ _ _ (next _ _ (q1.lw h)), fun ne => absurd ?_ ne⟩
  rfl
set_option maxRecDepth 100000 in
theorem lw_c36 (h : lw I rw u ln) (hN : ln 14 = N) (hi : i + 6 ≤ N) (next : ∀ J rw', lw J rw' u ln → sx_V 229 (d + 68) (mc + 3) (ms + 196) K 1432 [(0, .ref 14), (1, .ref 15), (2, .ref 78), (3, .int (nI i))] [] J (sx_run rw' (3 * u) ln)) :
    sx_V 229 (d + 68) (mc + 3) (ms + 196) K 1304 [(0, .ref 14), (1, .ref 15), (2, .ref 78), (3, .int (nI i))] [] I (sx_run rw (3 * u) ln) := by
  obtain ⟨⟨hb, hs, htx⟩, -, ⟨hg, hgo⟩, ⟨hl, hlo⟩, -, -, -⟩ := id h
  obtain ⟨hv, t0, r0, hnt, ht0, -, -⟩ := id hs
  obtain ⟨⟨n, hn, hn10⟩, -⟩ := id hv
  have hT := htx.tn
  have lt : ∀ k, k < 6 → i + k < ln 14 := fun k hk => by omega
  refine sx_go m229 100 rfl (fun VV CC hV hC => ?_)
  refine ⟨i + 1, ⟨nI_add i 1, lt 1 (by decide)⟩, i + 2, ⟨nI_add i 2, lt 2 (by decide)⟩, hC _ _ _ _ _ (c1_rest hl ?_)⟩
  have q1 := lw_q.rf I
  have e14 : I 14 = I 14 := q1.a (by omega)
  have e79 : I 79 = I 79 := q1.a (by omega)
  have e82 : I 82 = I 82 := q1.a (by omega)
  have e83 : I 83 = I 83 := q1.a (by omega)
  have e84 : I 84 = I 84 := q1.a (by omega)
  have e85 : I 85 = I 85 := q1.a (by omega)
  have e86 : I 86 = I 86 := q1.a (by omega)
  have e87 : I 87 = I 87 := q1.a (by omega)
  have e88 : I 88 = I 88 := q1.a (by omega)
  have e89 : I 89 = I 89 := q1.a (by omega)
  have e78 : I 78 = I 78 := rfl
  refine ⟨i + 1, ⟨nI_add i 1, lt 1 (by decide)⟩, i + 2, ⟨nI_add i 2, lt 2 (by decide)⟩, hC _ _ _ _ _ (c_rest ?_)⟩
  refine ⟨fun _ => hV _ _ _ _ _ _ _ (next _ _ (q1.lw h)), fun ne => absurd ?_ ne⟩
  rfl
end
