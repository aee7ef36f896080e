/-! ===== the law: the calls on sheets and slots ===== -/
section
variable {d mc ms : Nat} {I : sx_I} {rw : Nat → Nat → Option Nat} {u i N : Nat} {ln : Nat → Nat} {K : sx_K}
set_option maxRecDepth 100000 in
theorem lw_c28 (h : lw I rw u ln) (hN : ln 14 = N) (hi : i + 6 ≤ N) (next : ∀ J rw', lw J rw' u ln → sx_V 229 (d + 68) (mc + 3) (ms + 196) K 1432 [(0, .ref 14), (1, .ref 15), (2, .ref 78), (3, .int (nI i))] [] J (sx_run rw' (3 * u) ln)) :
    sx_V 229 (d + 68) (mc + 3) (ms + 196) K 1000 [(0, .ref 14), (1, .ref 15), (2, .ref 78), (3, .int (nI i))] [] I (sx_run rw (3 * u) ln) := by
  have lt : ∀ k, k < 6 → i + k < ln 14 := fun k hk => by omega
  obtain ⟨-, -, ⟨hg, hgo⟩, -⟩ := id h
  refine sx_go m229 100 rfl (fun VV CC hV hC => ?_)
  refine ⟨i + 1, ⟨nI_add i 1, lt 1 (by decide)⟩, i + 2, ⟨nI_add i 2, lt 2 (by decide)⟩, i + 3, ⟨nI_add i 3, lt 3 (by decide)⟩, hC _ _ _ _ _ (c1_sheet hg (fun cb => ?_) (fun cb cs cn => ?_) (fun j v J cb ej hj hv hJ hgJ => ?_))⟩
  · have eA : gs_sheetA (I 14 (i + 1)) (I 14 (i + 2)) (I 14 (i + 3)) = -1000000001 := if_pos cb
    have eJ : gs_sheetJ I (I 14 (i + 1)) (I 14 (i + 2)) (I 14 (i + 3)) = I := if_pos cb
    refine ⟨i + 1, ⟨nI_add i 1, lt 1 (by decide)⟩, i + 2, ⟨nI_add i 2, lt 2 (by decide)⟩, i + 3, ⟨nI_add i 3, lt 3 (by decide)⟩, hC _ _ _ _ _ (c_sheet ?_)⟩
    rw [eA, eJ]
    exact ⟨fun _ => hV _ _ _ _ _ _ _ (next _ _ h), fun ne => absurd rfl ne⟩
  · have eA : gs_sheetA (I 14 (i + 1)) (I 14 (i + 2)) (I 14 (i + 3)) = -1000000014 := (if_neg cb).trans ((if_neg cs).trans (if_pos cn))
    have eJ : gs_sheetJ I (I 14 (i + 1)) (I 14 (i + 2)) (I 14 (i + 3)) = I := (if_neg cb).trans ((if_neg cs).trans (if_pos cn))
    refine ⟨i + 1, ⟨nI_add i 1, lt 1 (by decide)⟩, i + 2, ⟨nI_add i 2, lt 2 (by decide)⟩, i + 3, ⟨nI_add i 3, lt 3 (by decide)⟩, hC _ _ _ _ _ (c_sheet ?_)⟩
    rw [eA, eJ]
    exact ⟨fun _ => hV _ _ _ _ _ _ _ (next _ _ h), fun ne => absurd rfl ne⟩
  · have e14 : J 14 = I 14 := hJ 14 (by decide)
    have eA : gs_sheetA (J 14 (i + 1)) (J 14 (i + 2)) (J 14 (i + 3)) = v := by
      rw [e14]
      refine (if_neg cb).trans ?_
      rcases hv with ⟨c1, rfl⟩ | ⟨c1, c2, rfl⟩
      · exact if_pos c1
      · exact (if_neg c1).trans (if_neg c2)
    have eJ : gs_sheetJ J (J 14 (i + 1)) (J 14 (i + 2)) (J 14 (i + 3)) = gs_sheetI J j (I 14 (i + 2)) v := by
      rw [e14]
      refine (if_neg cb).trans ?_
      rw [ej, nI_clamp (by omega)]
      rcases hv with ⟨c1, rfl⟩ | ⟨c1, c2, rfl⟩
      · exact if_pos c1
      · exact (if_neg c1).trans (if_neg c2)
    refine ⟨i + 1, ⟨nI_add i 1, lt 1 (by decide)⟩, i + 2, ⟨nI_add i 2, lt 2 (by decide)⟩, i + 3, ⟨nI_add i 3, lt 3 (by decide)⟩, hC _ _ _ _ _ (c_sheet ?_)⟩
    rw [eA, eJ]
    refine ⟨fun _ => hV _ _ _ _ _ _ _ (next _ _ ?_), fun ne => absurd rfl ne⟩
    have hso : I 14 (i + 2) = -1 ∨ I 14 (i + 2) = 0 ∨ I 14 (i + 2) = nI 1 := by
      have z := gs_in_iff.mp (fun z => cb (Or.inr (Or.inl z)))
      have h1 := z.1
      have h2 := z.2
      rw [Int32.le_iff_toInt_le] at h1 h2
      rw [nI_toInt (by omega)] at h2
      have e1 : (-1 : Int32).toInt = -1 := by decide +kernel
      rw [e1] at h1
      have : (I 14 (i + 2)).toInt = -1 ∨ (I 14 (i + 2)).toInt = 0 ∨ (I 14 (i + 2)).toInt = 1 := by omega
      rcases this with y | y | y
      · exact Or.inl (Int32.toInt_inj.mp (y.trans e1.symm))
      · exact Or.inr (Or.inl (Int32.toInt_inj.mp y))
      · exact Or.inr (Or.inr (Int32.toInt_inj.mp (y.trans (nI_toInt (n := 1) (by decide)).symm)))
    have hv24 : ∃ c, v = nI c ∧ c ≤ 24 := by
      rcases hv with ⟨c1, rfl⟩ | ⟨c1, c2, rfl⟩
      · exact ⟨0, rfl, by omega⟩
      · have c3 : ¬ nI 24 < I 14 (i + 3) := fun z => cb (Or.inr (Or.inr ⟨c1, z⟩))
        obtain ⟨c, e, -, hc⟩ := gs_in_nat (a := 0) (b := 24) (v := I 14 (i + 3)) (by omega) (gs_in_iff.mpr ⟨Int32.not_lt.mp c2, Int32.not_lt.mp c3⟩) (by decide)
        exact ⟨c, e, hc⟩
    have g82 : (gs_sheetI J j (I 14 (i + 2)) v) 82 = upd (I 82) j (I 14 (i + 2)) := by
      unfold gs_sheetI
      rw [sx_up_ne (by decide), sx_up_ne (by decide), sx_up_same, hJ 82 (by decide)]
    have g83 : (gs_sheetI J j (I 14 (i + 2)) v) 83 = upd (I 83) j v := by
      unfold gs_sheetI
      rw [sx_up_ne (by decide), sx_up_same, hJ 83 (by decide)]
    have g84 : (gs_sheetI J j (I 14 (i + 2)) v) 84 = gs_tp (I 84) (24 * j) (fun _ => 0) 24 := by
      unfold gs_sheetI
      rw [sx_up_same, hJ 84 (by decide)]
    have gq : ∀ q, (q < 82 ∨ 84 < q) → (gs_sheetI J j (I 14 (i + 2)) v) q = J q := fun q hq => by
      unfold gs_sheetI
      rw [sx_up_ne (by omega), sx_up_ne (by omega), sx_up_ne (by omega)]
    refine h.sheets (fun q a => (gq q (by omega)).trans (hJ q (by omega))) ⟨?_, ?_⟩
    · rw [g82, g83, g84]; exact hgJ.fr (fun a x y => gq a (by omega))
    · rw [g82, g83, g84]; exact hgo.sheet hso hv24
set_option maxRecDepth 100000 in
theorem lw_c29 (h : lw I rw u ln) (hN : ln 14 = N) (hi : i + 6 ≤ N) (next : ∀ J rw', lw J rw' u ln → sx_V 229 (d + 68) (mc + 3) (ms + 196) K 1432 [(0, .ref 14), (1, .ref 15), (2, .ref 78), (3, .int (nI i))] [] J (sx_run rw' (3 * u) ln)) :
    sx_V 229 (d + 68) (mc + 3) (ms + 196) K 1043 [(0, .ref 14), (1, .ref 15), (2, .ref 78), (3, .int (nI i))] [] I (sx_run rw (3 * u) ln) := by
  have lt : ∀ k, k < 6 → i + k < ln 14 := fun k hk => by omega
  obtain ⟨-, -, ⟨hg, hgo⟩, -⟩ := id h
  refine sx_go m229 100 rfl (fun VV CC hV hC => ?_)
  refine ⟨i + 1, ⟨nI_add i 1, lt 1 (by decide)⟩, i + 2, ⟨nI_add i 2, lt 2 (by decide)⟩, i + 3, ⟨nI_add i 3, lt 3 (by decide)⟩, hC _ _ _ _ _ (c1_mark hg hgo (fun J hJ hgJ => ?_))⟩
  have e14 : J 14 = I 14 := hJ 14 (by decide)
  have e82 : J 82 = I 82 := hJ 82 (by decide)
  have e83 : J 83 = I 83 := hJ 83 (by decide)
  have e84 : J 84 = I 84 := hJ 84 (by decide)
  refine ⟨i + 1, ⟨nI_add i 1, lt 1 (by decide)⟩, i + 2, ⟨nI_add i 2, lt 2 (by decide)⟩, i + 3, ⟨nI_add i 3, lt 3 (by decide)⟩, hC _ _ _ _ _ (c_mark (by rw [e83]; exact fun j hj => (hgo j hj).2.1) ?_)⟩
  rw [e14, e82, e83, e84]
  refine ⟨fun _ => hV _ _ _ _ _ _ _ (next _ _ ?_), fun ne => absurd rfl ne⟩
  refine h.sheets (fun q a => (sx_up_ne (by omega)).trans (hJ q (by omega))) ⟨?_, ?_⟩
  · rw [sx_up_ne (by decide), sx_up_ne (by decide), sx_up_same, e82, e83]; exact hgJ.fr (fun a x y => sx_up_ne (by omega))
  · rw [sx_up_ne (by decide), sx_up_ne (by decide), sx_up_same, e82, e83]; exact hgo.mark
set_option maxRecDepth 100000 in
theorem lw_c32 (h : lw I rw u ln) (hN : ln 14 = N) (hi : i + 6 ≤ N) (next : ∀ J rw', lw J rw' u ln → sx_V 229 (d + 68) (mc + 3) (ms + 196) K 1432 [(0, .ref 14), (1, .ref 15), (2, .ref 78), (3, .int (nI i))] [] J (sx_run rw' (3 * u) ln)) :
    sx_V 229 (d + 68) (mc + 3) (ms + 196) K 1132 [(0, .ref 14), (1, .ref 15), (2, .ref 78), (3, .int (nI i))] [] I (sx_run rw (3 * u) ln) := by
  have lt : ∀ k, k < 6 → i + k < ln 14 := fun k hk => by omega
  obtain ⟨-, -, ⟨hg, hgo⟩, -⟩ := id h
  refine sx_go m229 100 rfl (fun VV CC hV hC => ?_)
  refine ⟨i + 1, ⟨nI_add i 1, lt 1 (by decide)⟩, i + 2, ⟨nI_add i 2, lt 2 (by decide)⟩, i + 3, ⟨nI_add i 3, lt 3 (by decide)⟩, i + 4, ⟨nI_add i 4, lt 4 (by decide)⟩, i + 5, ⟨nI_add i 5, lt 5 (by decide)⟩, hC _ _ _ _ _ (c1_copy hg hgo (fun J hJ hgJ => ?_))⟩
  have e14 : J 14 = I 14 := hJ 14 (by decide)
  have e82 : J 82 = I 82 := hJ 82 (by decide)
  have e83 : J 83 = I 83 := hJ 83 (by decide)
  have e84 : J 84 = I 84 := hJ 84 (by decide)
  refine ⟨i + 1, ⟨nI_add i 1, lt 1 (by decide)⟩, i + 2, ⟨nI_add i 2, lt 2 (by decide)⟩, i + 3, ⟨nI_add i 3, lt 3 (by decide)⟩, i + 4, ⟨nI_add i 4, lt 4 (by decide)⟩, i + 5, ⟨nI_add i 5, lt 5 (by decide)⟩, hC _ _ _ _ _ (c_copy (by rw [e83]; exact fun j hj => (hgo j hj).2.1) (fun f => ?_))⟩
  rw [e14, e82, e83, e84]
  refine ⟨fun _ => hV _ _ _ _ _ _ _ (next _ _ ?_), fun ne => absurd rfl ne⟩
  refine h.sheets (fun q a => (sx_up_ne (by omega)).trans ((sx_up_ne (by omega)).trans (hJ q (by omega)))) ⟨?_, ?_⟩
  · rw [sx_up_ne (show 82 ≠ 84 by decide), sx_up_ne (show 82 ≠ 94 by decide), sx_up_ne (show 83 ≠ 84 by decide), sx_up_ne (show 83 ≠ 94 by decide), sx_up_same, e82, e83]
    exact hgJ.fr (fun a x y => (sx_up_ne (by omega)).trans (sx_up_ne (by omega)))
  · rw [sx_up_ne (show 82 ≠ 84 by decide), sx_up_ne (show 82 ≠ 94 by decide), sx_up_ne (show 83 ≠ 84 by decide), sx_up_ne (show 83 ≠ 94 by decide), sx_up_same, e82, e83]
    exact hgo.copy
set_option maxRecDepth 100000 in
theorem lw_c33 (h : lw I rw u ln) (hN : ln 14 = N) (hi : i + 6 ≤ N) (next : ∀ J rw', lw J rw' u ln → sx_V 229 (d + 68) (mc + 3) (ms + 196) K 1432 [(0, .ref 14), (1, .ref 15), (2, .ref 78), (3, .int (nI i))] [] J (sx_run rw' (3 * u) ln)) :
    sx_V 229 (d + 68) (mc + 3) (ms + 196) K 1195 [(0, .ref 14), (1, .ref 15), (2, .ref 78), (3, .int (nI i))] [] I (sx_run rw (3 * u) ln) := by
  have lt : ∀ k, k < 6 → i + k < ln 14 := fun k hk => by omega
  obtain ⟨⟨hb, hs, htx⟩, -, ⟨hg, hgo⟩, ⟨hl, hlo⟩, -⟩ := id h
  obtain ⟨hv, -⟩ := id hs
  obtain ⟨⟨n, hn, hn10⟩, -⟩ := id hv
  refine sx_go m229 100 rfl (fun VV CC hV hC => ?_)
  refine ⟨i + 1, ⟨nI_add i 1, lt 1 (by decide)⟩, i + 2, ⟨nI_add i 2, lt 2 (by decide)⟩, i + 3, ⟨nI_add i 3, lt 3 (by decide)⟩, hC _ _ _ _ _ (c1_lay hb hv hg hgo hl (fun cb => ?_) (fun c1 c2 c3 => ?_) (fun j J ej hj c2 c3 hJ hlJ => ?_))⟩
  · refine ⟨i + 1, ⟨nI_add i 1, lt 1 (by decide)⟩, i + 2, ⟨nI_add i 2, lt 2 (by decide)⟩, i + 3, ⟨nI_add i 3, lt 3 (by decide)⟩, hC _ _ _ _ _ (c_lay hn hn10 (fun _ => ?_) (fun d1 d2 _ => ?_) (fun d1 d2 _ => ?_))⟩
    · exact ⟨fun _ => hV _ _ _ _ _ _ _ (next _ _ h), fun ne => absurd rfl ne⟩
    · exact absurd cb (fun z => z.elim d1 (fun y => y d2))
    · exact absurd cb (fun z => z.elim d1 (fun y => y d2))
  · refine ⟨i + 1, ⟨nI_add i 1, lt 1 (by decide)⟩, i + 2, ⟨nI_add i 2, lt 2 (by decide)⟩, i + 3, ⟨nI_add i 3, lt 3 (by decide)⟩, hC _ _ _ _ _ (c_lay hn hn10 (fun z => ?_) (fun _ _ _ => ?_) (fun _ _ d3 => ?_))⟩
    · exact absurd z (fun z => z.elim c1 (fun y => y c2))
    · exact ⟨fun _ => hV _ _ _ _ _ _ _ (next _ _ h), fun ne => absurd rfl ne⟩
    · exact absurd c3 d3
  · have e14 : J 14 = I 14 := hJ 14 (by decide)
    have e79 : J 79 = I 79 := hJ 79 (by decide)
    have e82 : J 82 = I 82 := hJ 82 (by decide)
    have e83 : J 83 = I 83 := hJ 83 (by decide)
    have e84 : J 84 = I 84 := hJ 84 (by decide)
    have c1 : ¬ gs_in (I 14 (i + 1)) 0 (nI 4) = 0 := by
      rw [ej]; exact gs_in_iff.mpr ⟨nI_le (a := 0) (by omega) (by omega), nI_le (by omega) (by omega)⟩
    refine ⟨i + 1, ⟨nI_add i 1, lt 1 (by decide)⟩, i + 2, ⟨nI_add i 2, lt 2 (by decide)⟩, i + 3, ⟨nI_add i 3, lt 3 (by decide)⟩, hC _ _ _ _ _ (c_lay (n := n) (by rw [e79]; exact hn) hn10 (fun z => ?_) (fun _ _ z => ?_) (fun _ _ _ => ?_))⟩
    · rw [e14, e79] at z
      exact absurd z (fun z => z.elim c1 (fun y => y c2))
    · rw [e14, e82] at z
      exact absurd z c3
    · rw [e14, ej, nI_clamp (by omega), hJ 85 (by decide)]
      refine ⟨fun _ => hV _ _ _ _ _ _ _ (next _ _ ?_), fun ne => absurd rfl ne⟩
      obtain ⟨l1, l2, l3, l4, l5, l6⟩ := gs_layI_at J j (I 14 (i + 2)) (I 14 (i + 3))
      rw [hJ 85 (by decide)] at l1
      rw [hJ 86 (by decide), e79] at l2
      rw [hJ 87 (by decide), e79] at l3
      rw [hJ 88 (by decide), e83] at l4
      rw [hJ 89 (by decide), e84] at l5
      refine h.slots (fun q a => (l6 q (by omega)).trans (hJ q (by omega))) ⟨?_, ?_⟩
      · rw [l1, l2, l3, l4, l5]; exact hlJ.fr (fun a x y => l6 a (by omega))
      · rw [l1, l4]
        intro k hk
        obtain ⟨o1, o2⟩ := hlo k hk
        refine ⟨?_, ?_⟩
        · by_cases z : k = j
          · rw [z, pk_us]
            rcases c2 with y | y | y | y
            · exact Or.inl y
            · exact Or.inr (Or.inr (Or.inr y))
            · exact Or.inr (Or.inl y.1)
            · exact Or.inr (Or.inr (Or.inl y.1))
          · rw [pk_un z]; exact o1
        · by_cases t2 : I 14 (i + 2) = nI 2
          · rw [if_pos t2]
            by_cases z : k = j
            · rw [z, pk_us]
              rcases c2 with y | y | y | y
              · rw [t2] at y; exact absurd y (by decide +kernel)
              · rw [t2] at y; exact absurd y (by decide +kernel)
              · have y := y.1; rw [t2] at y; exact absurd y (by decide +kernel)
              · obtain ⟨x, ex, -, hx⟩ := gs_in_nat (a := 0) (by omega) y.2 (by decide)
                rw [ex, nI_clamp (by omega)]
                exact (hgo x (by omega)).2.1
            · rw [pk_un z]; exact o2
          · rw [if_neg t2]; exact o2
end
