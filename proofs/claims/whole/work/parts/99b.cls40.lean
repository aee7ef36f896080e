/-! ===== the law: a text ===== -/
section
variable {I J : sx_I} {rw rw' : Nat → Nat → Option Nat} {ro ro' : Nat → Option Nat} {u u' m m' : Nat} {ln ln' : Nat → Nat} {s s' : Nat → Int32}
theorem gb.ag2 {b T : Nat} (h : gb b s I) (hT : s 1 = nI T) (hT14 : T ≤ 14) (ha : ∀ i, i < 62 + 200 * T → s' i = s i) : gb b s' I := by
  obtain ⟨⟨h1, h2, h3, h4⟩, h5, h6, h7, h8⟩ := h
  refine ⟨⟨by rw [ha _ (by omega)]; exact h1, by rw [ha _ (by omega)]; exact h2, by rw [ha _ (by omega)]; exact h3, by rw [ha _ (by omega)]; exact h4⟩, fun w hw k hk => by rw [ha _ (by omega)]; exact h5 w hw k hk, fun w hw => by rw [ha _ (by omega)]; exact h6 w hw, fun w hw => by rw [ha _ (by omega)]; exact h7 w hw, fun w hw => ?_⟩
  have := h8 w hw
  rw [ha 1 (by omega), hT, nI_clamp (by omega)]
  rw [hT, nI_clamp (by omega)] at this
  rw [gs_counts_cg (nI w) T hT14 (fun t ht => ha _ (by omega))]
  exact this
theorem gb_tx1.nw {t : Nat} (h : gb_tx1 I ro m ln s t) (hI : ∀ a, 200 ≤ a → a < 200 + m → (a - 200) % 3 ≠ 2 → J a = I a) (hrw : ro' t = ro t) (hm : m ≤ m') (hln : ∀ a, a < 200 + m → ln' a = ln a) (hs : ∀ i, 62 + 200 * t ≤ i → i < 262 + 200 * t → s' i = s i) : gb_tx1 J ro' m' ln' s' t := by
  obtain ⟨x, M, h1, h2, h3, h4, h5, h6, h7⟩ := h
  have ht : t < 14 := h6.1
  have hM : M ≤ 96 := h6.2.2.1
  have hag : ∀ k, k ≤ 96 → gs_ht s' t k = gs_ht s t k := by
    intro k
    induction k with
    | zero => intro _; rfl
    | succ k ih =>
      intro hk
      unfold gs_ht
      rw [ih (by omega), hs _ (by omega) (by omega), hs _ (by omega) (by omega)]
  refine ⟨x, M, hrw.trans h1, by omega, by rw [hI _ (by omega) (by omega) (by omega), hs _ (by omega) (by omega)]; exact h3, by rw [hI _ (by omega) (by omega) (by omega), hs _ (by omega) (by omega)]; exact h4, ⟨by rw [hln _ (by omega)]; exact h5.1, by rw [hln _ (by omega)]; exact h5.2⟩, ⟨ht, by rw [hs _ (by omega) (by omega)]; exact h6.2.1, hM, by rw [hag _ hM]; exact h6.2.2.2.1, fun k hk => ?_⟩, fun i hi => ?_⟩
  · rw [hs _ (by omega) (by omega), hs _ (by omega) (by omega), hag _ (by omega), hs _ (by omega) (by omega)]
    exact h6.2.2.2.2 k hk
  · rw [hI _ (by omega) (by omega) (by omega), hs _ (by omega) (by omega), hs _ (by omega) (by omega), hs _ (by omega) (by omega)]
    exact h7 i hi
theorem gy_code {key : Int32} {f g : Nat → Int32} : ∀ o : List (Nat × Nat), gy_cd f o → gy_out g o → gy_ok key o → ∀ i, i < o.length → gb_tk key (f i) (g (2 * i)) (g (2 * i + 1))
  | [], _, _, _, i, hi => absurd hi (Nat.not_lt_zero i)
  | (w, v) :: o, ⟨a1, a2⟩, ⟨b1, b2, b3⟩, ⟨c1, c2⟩, i, hi => by
    by_cases e : i = o.length
    · subst e
      rw [a1, b1, b2]
      rcases c2 with ⟨rfl, z⟩ | ⟨rfl, z⟩ | ⟨rfl, rfl, -⟩ | ⟨rfl, z, -⟩
      · exact Or.inl ⟨rfl, rfl, nI_le (a := 0) (by omega) (by omega)⟩
      · exact Or.inr (Or.inl ⟨rfl, v, rfl, z, rfl⟩)
      · exact Or.inr (Or.inr ⟨rfl, 33, rfl, rfl, Or.inl rfl⟩)
      · exact Or.inr (Or.inr ⟨rfl, v, rfl, rfl, Or.inr (gy_tn_sg z).2.2⟩)
    · have hl : ((w, v) :: o).length = o.length + 1 := rfl
      exact gy_code o a2 b3 c1 i (by omega)
theorem lw.txt (h : lw I rw u ln) (f : ∀ q, ((28 ≤ q ∧ q ≤ 36) ∨ q = 128 ∨ q = 53 ∨ (55 ≤ q ∧ q ≤ 77) ∨ q = 80 ∨ (82 ≤ q ∧ q ≤ 89) ∨ q = 95) → J q = I q) (h15 : ∀ k, k ≠ 7 → J 15 k = I 15 k) (h157 : J 15 7 = 0) (h78 : ∀ k, (k < 14 ∨ 24 < k) → J 78 k = I 78 k) (h7814 : J 78 14 = 0) (hA : lwA J rw' u' ln') (htB : gb_tx J (rw' 28) (3 * u') ln' (I 80)) (hG : lwG J) : lw J rw' u' ln' := by
  obtain ⟨-, ⟨hBc, hsB, -⟩, hC, hD, -, hF, -⟩ := h
  refine ⟨hA, ⟨?_, ?_, ?_⟩, hC.cg (fun q a => f q (by omega)), hD.cg (fun q a => f q (by omega)), ⟨0, h157, h7814, by omega, fun i hi => absurd hi (Nat.not_lt_zero i)⟩, hF.cg (h15 11 (by omega)) (h78 29 (by omega)) (f 53 (by omega)) (f 95 (by omega)), hG⟩
  · rw [h15 4 (by omega), h78 3 (by omega), f 80 (by omega)]
    rcases hBc with z | ⟨z1, z2, z3⟩
    · exact Or.inl z
    · exact Or.inr ⟨z1, z2, z3.fr2 (fun q a => f q (by omega))⟩
  · rw [f 80 (by omega)]; exact hsB
  · rw [f 80 (by omega)]; exact htB
/-- a text that is none -/
theorem lw.txtF {J2 : sx_I} {t a : Nat} (h : lw I rw u ln) (ht : I 79 1 = nI t) (ht14 : t ≤ 14) (ha : 62 + 200 * t ≤ a) (te : gb_te I J) (pf : gy_pf a J J2) : lw J2 rw u ln := by
  obtain ⟨⟨hb, hs, htx⟩, ⟨-, -, htxB⟩, -, -, -, -, hG⟩ := id h
  have f : ∀ q, q ≠ 15 → (q < 46 ∨ 49 < q) → q ≠ 78 → q ≠ 79 → J2 q = I q := fun q a b c d => (pf.1 q c d).trans (te.1 q a b)
  have ag : ∀ q, q < 62 + 200 * t → J2 79 q = I 79 q := fun q hq => by rw [pf.2.2.2 q (by omega), te.1 79 (by decide) (by decide)]
  obtain ⟨T, hT, hT14, hok, hro⟩ := id htx
  have eT : T = t := (nI_eq (by omega) (by omega)).mp (hT.symm.trans ht)
  subst eT
  refine h.txt (fun q a => f q (by omega) (by omega) (by omega) (by omega)) (fun k hk => ?_) ?_ (fun k hk => ?_) pf.2.2.1 ⟨?_, ?_, ?_⟩ ?_ trivial
  · rw [pf.1 15 (by decide) (by decide)]; exact te.2.2 k hk
  · rw [pf.1 15 (by decide) (by decide)]; exact te.2.1
  · rw [pf.2.1 k hk, te.1 78 (by decide) (by decide)]
  · exact (hb.fr2 (fun q a => f q (by omega) (by omega) (by omega) (by omega))).ag2 ht ht14 ag
  · exact hs.ag (fun q hq => ag q (by omega))
  · exact ⟨T, (ag 1 (by omega)).trans hT, ht14, fun t' ht' => (hok t' ht').nw (fun a h1 _ _ => f a (by omega) (by omega) (by omega) (by omega)) rfl (Nat.le_refl _) (fun _ _ => rfl) (fun i h1 h2 => ag i (by omega)), hro⟩
  · exact htxB.cg (fun a ha _ => f a (by omega) (by omega) (by omega) (by omega)) rfl (fun _ _ _ => rfl)
/-- a text that is one -/
theorem lw.txtT {J2 : sx_I} {t k w : Nat} {o : List (Nat × Nat)} (h : lw I rw u ln) (ht : I 79 1 = nI t) (ht14 : t < 14) (hk : k < 3) (gn : gb_new t u k w o I J) (tf : gy_tf t J J2) (e1 : J2 79 1 = nI (t + 1)) (e62 : J2 79 (62 + 200 * t) = nI k) (e63 : J2 79 (63 + 200 * t) = nI w) (htok : gs_tok (J2 79) t o.length) (hout : gy_out (fun i => J2 79 (66 + 200 * t + i)) o) (hok : gy_ok (nI k) o) :
    lw J2 (gb_pt rw t u) (u + 1) (gb_ln ln u o.length) := by
  obtain ⟨⟨hb, hs, htx⟩, ⟨-, -, htxB⟩, -, -, -, -, hG⟩ := id h
  obtain ⟨n1, n15, n19, n27, na, nb, nc⟩ := gn
  have f : ∀ q, q ≠ 15 → q ≠ 119 → q ≠ 27 → (q < 46 ∨ 49 < q) → q ≠ 78 → q ≠ 79 → q < 200 + 3 * u → J2 q = I q := fun q a b c d e g i => (tf.1 q e g).trans (n1 q a b c d i)
  have ag : ∀ q, q < 62 + 200 * t → q ≠ 1 → J2 79 q = I 79 q := fun q hq h1 => by rw [tf.2.2.2 q hq h1, n1 79 (by decide) (by decide) (by decide) (by decide) (by omega)]
  obtain ⟨T, hT, hT14, htk, hro⟩ := id htx
  have eT : T = t := (nI_eq (by omega) (by omega)).mp (hT.symm.trans ht)
  subst eT
  obtain ⟨TB, hTB, hTB14, htkB, hroB⟩ := id htxB
  have hl : ∀ a, a < 200 + 3 * u → gb_ln ln u o.length a = ln a := fun a ha => (if_neg (by omega)).trans (if_neg (by omega))
  have e80 : J2 80 = I 80 := f 80 (by decide) (by decide) (by decide) (by decide) (by decide) (by decide) (by omega)
  refine h.txt (fun q a => f q (by omega) (by omega) (by omega) (by omega) (by omega) (by omega) (by omega)) (fun k hk => ?_) ?_ (fun k hk => ?_) tf.2.2.1 ⟨?_, ?_, ?_⟩ ?_ trivial
  · rw [tf.1 15 (by decide) (by decide)]; exact n15.2 k hk
  · rw [tf.1 15 (by decide) (by decide)]; exact n15.1
  · rw [tf.2.1 k hk, n1 78 (by decide) (by decide) (by decide) (by decide) (by omega)]
  · obtain ⟨⟨h1, h2, h3, h4⟩, h5, h6, h7, h8⟩ := hb
    have q19 : J2 19 = I 19 := f 19 (by decide) (by decide) (by decide) (by decide) (by decide) (by decide) (by omega)
    refine ⟨⟨?_, ?_, ?_, ?_⟩, fun w hw k hk => ?_, fun w hw => ?_, fun w hw => ?_, fun w hw => ?_⟩
    · rw [q19, ag 0 (by omega) (by decide)]; exact h1
    · rw [q19, ag 2 (by omega) (by decide)]; exact h2
    · rw [q19, ag 11 (by omega) (by decide)]; exact h3
    · show J2 119 1 = _
      rw [tf.1 119 (by decide) (by decide), n19.1, e1]
    · rw [f _ (by omega) (by omega) (by omega) (by omega) (by omega) (by omega) (by omega), ag _ (by omega) (by omega)]; exact h5 w hw k hk
    · rw [f _ (by omega) (by omega) (by omega) (by omega) (by omega) (by omega) (by omega), ag _ (by omega) (by omega)]; exact h6 w hw
    · rw [f _ (by omega) (by omega) (by omega) (by omega) (by omega) (by omega) (by omega), ag _ (by omega) (by omega)]; exact h7 w hw
    · show J2 27 w = _
      have h8 : I 27 w = gs_on (gs_counts (I 79) (nI w) (I 79 1).toNatClampNeg) := h8 w hw
      rw [hT, nI_clamp (by omega)] at h8
      rw [tf.1 27 (by decide) (by decide), n27, e1, nI_clamp (by omega)]
      show _ = gs_on (if J2 79 (62 + 200 * T) = nI w then nI T else gs_counts (J2 79) (nI w) T)
      rw [e62]
      by_cases z : w = k
      · rw [z, pk_us, if_pos rfl]
        exact (if_neg (nI_nlt (b := 0) (by omega) (by omega))).symm
      · rw [pk_un z, if_neg (fun y => z ((nI_eq (by omega) (by omega)).mp y).symm), gs_counts_cg (nI w) T (by omega) (fun t ht => ag _ (by omega) (by omega))]
        exact h8
  · exact hs.k ⟨by rw [ag 0 (by omega) (by decide)]; exact hs.1.1, fun k hk => by rw [ag _ (by omega) (by omega), ag _ (by omega) (by omega), ag _ (by omega) (by omega), ag _ (by omega) (by omega), ag _ (by omega) (by omega)]; exact hs.1.2 k hk⟩ (ag 2 (by omega) (by decide)) (ag 8 (by omega) (by decide)) (ag 9 (by omega) (by decide))
  · refine ⟨T + 1, e1, by omega, fun t' ht' => ?_, fun i b hi hb => ?_⟩
    · by_cases z : t' = T
      · subst z
        refine ⟨u, o.length, if_pos ⟨rfl, rfl⟩, by omega, ?_, ?_, ⟨(if_neg (by omega)).trans (if_pos rfl), if_pos rfl⟩, htok, fun i hi => ?_⟩
        · rw [tf.1 _ (by omega) (by omega), na, e62]
        · rw [tf.1 _ (by omega) (by omega), nb, e63]
        · rw [tf.1 (201 + 3 * u) (by omega) (by omega), e62]
          have := gy_code (key := nI k) o nc hout hok i hi
          rw [show 66 + 200 * t' + (2 * i + 1) = 67 + 200 * t' + 2 * i by omega] at this
          exact this
      · exact (htk t' (by omega)).nw (fun a h1 h2 _ => f a (by omega) (by omega) (by omega) (by omega) (by omega) (by omega) (by omega)) (if_neg (fun y => z y.2)) (by omega) hl (fun i h1 h2 => ag i (by omega) (by omega))
    · by_cases z : i = T
      · have e : some (200 + 3 * u) = some b := (if_pos ⟨rfl, z⟩).symm.trans hb
        cases e
        exact ⟨u, rfl, by omega⟩
      · obtain ⟨v, e, hv⟩ := hro i b hi ((if_neg (fun y => z y.2)).symm.trans hb)
        exact ⟨v, e, by omega⟩
  · have e28 : gb_pt rw T u 28 = rw 28 := funext fun i => if_neg (fun y => absurd y.1 (by decide))
    rw [e28]
    refine ⟨TB, hTB, hTB14, fun t' ht' => (htkB t' ht').nw (fun a h1 h2 _ => f a (by omega) (by omega) (by omega) (by omega) (by omega) (by omega) (by omega)) rfl (by omega) hl (fun _ _ _ => rfl), fun i b hi hb => ?_⟩
    obtain ⟨v, e, hv⟩ := hroB i b hi hb
    exact ⟨v, e, by omega⟩
end
section
variable {d mc ms : Nat} {I : sx_I} {rw : Nat → Nat → Option Nat} {u i N : Nat} {ln : Nat → Nat} {K : sx_K}
set_option maxRecDepth 100000 in
theorem lw_c25 (h : lw I rw u ln) (hN : ln 14 = N) (next : ∀ J rw' u' ln', lw J rw' u' ln' → ln' 14 = N → sx_V 229 (d + 68) mc ms K 1432 [(0, .ref 14), (1, .ref 15), (2, .ref 78), (3, .int (nI i))] [] J (sx_run rw' (3 * u') ln')) :
    sx_V 229 (d + 68) (mc + 3) (ms + 196) K 931 [(0, .ref 14), (1, .ref 15), (2, .ref 78), (3, .int (nI i))] [] I (sx_run rw (3 * u) ln) := by
  obtain ⟨⟨hb, hs, htx⟩, -, -, -, hE, -, -⟩ := id h
  obtain ⟨n, h7, h14, hn96, hby⟩ := hE
  obtain ⟨t, ht, ht14, -⟩ := id htx
  have hT : ∀ i, i < n → (I 91 i).toNatClampNeg < 256 ∧ I 91 i = nI (I 91 i).toNatClampNeg ∧ I 50 i = gy_sb (I 91 i).toNatClampNeg := by
    intro i hi
    obtain ⟨c, hc, e1, e2⟩ := hby i hi
    have e3 : (I 91 i).toNatClampNeg = c := by rw [e1]; exact nI_clamp (by omega)
    rw [e3]
    exact ⟨hc, e1, e2⟩
  generalize eT : (fun i => (I 91 i).toNatClampNeg) = T
  have hT : ∀ i, i < n → T i < 256 ∧ I 91 i = nI (T i) ∧ I 50 i = gy_sb (T i) := fun i hi => by rw [← eT]; exact hT i hi
  have hb5 : gy_b5 T n I := ⟨hn96, fun i hi => ⟨(hT i hi).2.2, (hT i hi).1⟩⟩
  have e11 : I 119 1 = nI t := hb.1.2.2.2.trans ht
  have ha14 : 62 + 200 * t ≤ gy_a t := by unfold gy_a; split <;> omega
  have hbt : ∀ J : sx_I, J 78 = I 78 → J 91 = I 91 → gy_bt T n J := fun J e78 e91 => ⟨by rw [e78]; exact h14, hn96, fun i hi => by rw [e91]; exact ⟨(hT i hi).2.1, (hT i hi).1⟩⟩
  refine sx_go m229 100 rfl (fun VV CC hV hC => ?_)
  refine hC _ _ _ _ _ (c1_text (T := T) (n := n) e11 ht14 h7 hb5 (fun J e te er => ?_) (fun c J key o w te er => ?_) (fun c J k o w gn hk3 hol er => ?_))
  · have e78 : J 78 = I 78 := te.1 78 (by decide) (by decide)
    have e79 : J 79 = I 79 := te.1 79 (by decide) (by decide)
    have e91 : J 91 = I 91 := te.1 91 (by decide) (by decide)
    refine hC _ _ _ _ _ (c_text (d := d) (t := t) (cmp := upd (I 49) 0 0) (by rw [e79]; exact ht) ht14 (hbt J e78 e91) pk_us (fun J2 e2 pf er2 => ?_) (fun c J2 key o w pf er2 => ?_) (fun c J2 key o w tf er2 a1 a2 a3 a4 a5 a6 a7 => ?_))
    · have : e = e2 := Sum.inl.inj (er.symm.trans er2)
      subst this
      exact ⟨fun _ => hV _ _ _ _ _ _ _ (next J2 rw u ln (h.txtF ht ht14 ha14 te pf) hN), fun ne => absurd rfl ne⟩
    · have := er.symm.trans er2
      cases this
    · have := er.symm.trans er2
      cases this
  · have e78 : J 78 = I 78 := te.1 78 (by decide) (by decide)
    have e79 : J 79 = I 79 := te.1 79 (by decide) (by decide)
    have e91 : J 91 = I 91 := te.1 91 (by decide) (by decide)
    refine hC _ _ _ _ _ (c_text (d := d) (t := t) (cmp := upd (I 49) 0 0) (by rw [e79]; exact ht) ht14 (hbt J e78 e91) pk_us (fun J2 e2 pf er2 => ?_) (fun c2 J2 key o w pf er2 => ?_) (fun c2 J2 key o w tf er2 a1 a2 a3 a4 a5 a6 a7 => ?_))
    · have := er.symm.trans er2
      cases this
    · exact ⟨fun _ => hV _ _ _ _ _ _ _ (next J2 rw u ln (h.txtF ht ht14 (by omega) te pf) hN), fun ne => absurd rfl ne⟩
    · exact absurd c2 (by omega)
  · have e78 : J 78 = I 78 := gn.1 78 (by decide) (by decide) (by decide) (by decide) (by omega)
    have e79 : J 79 = I 79 := gn.1 79 (by decide) (by decide) (by decide) (by decide) (by omega)
    have e91 : J 91 = I 91 := gn.1 91 (by decide) (by decide) (by decide) (by decide) (by omega)
    refine hC _ _ _ _ _ (c_text (d := d) (t := t) (cmp := upd (I 49) 0 0) (by rw [e79]; exact ht) ht14 (hbt J e78 e91) pk_us (fun J2 e2 pf er2 => ?_) (fun c2 J2 key o w pf er2 => ?_) (fun c2 J2 key' o' w' tf er2 a1 a2 a3 a4 a5 a6 a7 => ?_))
    · have := er.symm.trans er2
      cases this
    · exact absurd c (by omega)
    · have e := Sum.inr.inj (er.symm.trans er2)
      have ek : nI k = key' := congrArg (fun z => z.1) e
      have eo : o = o' := congrArg (fun z => z.2.1) e
      have ew : w = w' := congrArg (fun z => z.2.2) e
      subst ek; subst eo; subst ew
      refine ⟨fun _ => hV _ _ _ _ _ _ _ (next J2 _ (u + 1) _ (h.txtT ht c hk3 gn tf a2 a3 a4 a5 a6 a7) ?_), fun ne => absurd rfl ne⟩
      exact (if_neg (by omega)).trans ((if_neg (by omega)).trans hN)
end
