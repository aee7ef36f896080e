/-! ===== the class: a text worked out ===== -/
section
variable {d m : Nat} {I : sx_I} {rw : Nat → Nat → Option Nat} {ln : Nat → Nat} {K : sx_K}
theorem gb_nm3 (n : Nat) : gb_nm n = -1 ∨ gb_nm n = -2 ∨ gb_nm n = -3 := by
  unfold gb_nm
  split
  · exact Or.inl rfl
  · split
    · exact Or.inr (Or.inr rfl)
    · exact Or.inr (Or.inl rfl)
theorem v_val168 {a b c x : Int32} {ta k : Nat} (hn : sx_V 3 (d + 2) 0 0 K 6 [(0, .ref ta), (1, .int a), (2, .int b), (3, .int c), (4, .int x), (5, .int (nI (k + 1)))] [] I (sx_run rw m ln)) :
    sx_V 3 (d + 2) 0 0 K 168 [(0, .ref ta), (1, .int a), (2, .int b), (3, .int c), (4, .int x), (5, .int (nI k))] [] I (sx_run rw m ln) := by
  rw [nI_succ k] at hn
  exact sx_go m3 60 rfl (fun VV CC hV hC => hV _ _ _ _ _ _ _ hn)
theorem v_val80 {a b c v : Int32} {ta tk h k M : Nat} (hal3 : sx_al (sx_run rw m ln) tk = true) (hsh3 : sx_sh (sx_run rw m ln) tk = (1, 0, M)) (htk : 14 < tk) (hh : h < M) (hn : sx_V 3 (d + 2) 0 0 K 6 [(0, .ref ta), (1, .int a), (2, .int b), (3, .int c), (4, .int (nI (h + 1))), (5, .int (nI (k + 1)))] [] (sx_up I tk (upd (I tk) h v)) (sx_run rw m ln)) :
    sx_V 3 (d + 2) 0 0 K 80 [(0, .ref ta), (1, .int a), (2, .int b), (3, .int c), (4, .int (nI h)), (5, .int (nI k))] [.int v, .int (nI h), .ref tk] I (sx_run rw m ln) := by
  rw [← nI_add h 1] at hn
  refine sx_go m3 60 rfl (fun VV CC hV hC => ?_)
  exact sx_s_ist (cs := x3_81) hal3 hsh3 htk rfl hh (hV _ _ _ _ _ _ _ (v_val168 hn))
theorem v_val124 {a b c v x z : Int32} {ta tk q k M : Nat} (hal3 : sx_al (sx_run rw m ln) tk = true) (hsh3 : sx_sh (sx_run rw m ln) tk = (1, 0, M)) (htk : 14 < tk) (hz : z = nI q) (hh : q < M) (hn : sx_V 3 (d + 2) 0 0 K 6 [(0, .ref ta), (1, .int a), (2, .int b), (3, .int c), (4, .int x), (5, .int (nI (k + 1)))] [] (sx_up I tk (upd (I tk) q v)) (sx_run rw m ln)) :
    sx_V 3 (d + 2) 0 0 K 124 [(0, .ref ta), (1, .int a), (2, .int b), (3, .int c), (4, .int x), (5, .int (nI k))] [.int v, .int z, .ref tk] I (sx_run rw m ln) := by
  refine sx_go m3 60 rfl (fun VV CC hV hC => ?_)
  exact sx_s_ist (cs := x3_125) hal3 hsh3 htk hz hh (hV _ _ _ _ _ _ _ (v_val168 hn))
theorem v_valueOf {t M ta tc tk : Nat} {s : Nat → Int32} {a b c : Int32} {nm : Nat → Int32} (ht : gs_tok s t M) (hcode : ∀ i, i < M → gb_tk (s (62 + 200 * t)) (I tc i) (s (66 + 200 * t + 2 * i)) (s (67 + 200 * t + 2 * i))) (hal : sx_al (sx_run rw m ln) ta = true) (hsh : sx_sh (sx_run rw m ln) ta = (0, 5, 4)) (hR : (sx_run rw m ln).1 ta 2 = some tc) (hR3 : (sx_run rw m ln).1 ta 3 = some tk)
    (hal2 : sx_al (sx_run rw m ln) tc = true) (hsh2 : sx_sh (sx_run rw m ln) tc = (1, 0, M)) (htc : 200 ≤ tc) (hal3 : sx_al (sx_run rw m ln) tk = true) (hsh3 : sx_sh (sx_run rw m ln) tk = (1, 0, M)) (htk : 200 ≤ tk) (hne : tc ≠ tk)
    (hnm : ∀ n, gs_nmok (s (62 + 200 * t)) n → nm n = if gb_nm n = -1 then a else if gb_nm n = -3 then c else b) (hk : ∀ f, K (some (.int (gs_work nm s t))) (sx_up I tk f) (sx_run rw m ln)) :
    ∀ (r k : Nat) (f : Nat → Int32), k + r = M → gs_pile f (gs_ev nm s t k) → sx_V 3 (d + 2) 0 0 K 6 [(0, .ref ta), (1, .int a), (2, .int b), (3, .int c), (4, .int (nI (gs_ht s t k))), (5, .int (nI k))] [] (sx_up I tk f) (sx_run rw m ln) := by
  obtain ⟨ht14, hM, hM92, hend, hst⟩ := id ht
  have n98 : ∀ f, (sx_up I tk f) tc = I tc := fun f => sx_up_ne hne
  intro r
  induction r with
  | zero =>
    intro k f hk2 hp
    have : k = M := by omega
    subst this
    have h1M := gs_ht_le s t k
    rw [hend] at h1M
    refine sx_go m3 100 rfl (fun VV CC hV hC => ?_)
    refine sx_s_il (n := 99) (cs := x3_8) rfl ?_
    refine sx_s_al (n := 98) (cs := x3_9) rfl ?_
    refine sx_s_getr (n := 97) (cs := x3_12) hal hsh hR ?_
    refine sx_s_len (n := 96) (cs := x3_13) hal2 hsh2 ?_
    rw [hend]
    refine ⟨fun _ => ⟨fun (c2 : nI 1 ≤ 0) => absurd c2 (by decide +kernel), fun _ => ?_⟩, fun (c1 : ¬ nI k ≤ nI k) => absurd (Int32.le_refl _) c1⟩
    refine sx_s_al (cs := x3_180) rfl ?_
    refine sx_s_getr (cs := x3_183) hal hsh hR3 ?_
    refine sx_s_k (cs := x3_184) ?_
    refine sx_s_ild (cs := x3_185) (q := 0) hal3 hsh3 (by omega) rfl (by omega) ?_
    refine sx_kk ?_ (hk f)
    rw [sx_up_same]
    have hl := gs_ev_len (nm := nm) ht k (Nat.le_refl _)
    rw [hend] at hl
    unfold gs_work gs_res
    rw [hM, nI_clamp (by omega)]
    cases he : gs_ev nm s t k with
    | nil => rw [he] at hl; simp at hl
    | cons x q =>
      cases q with
      | nil => rw [he] at hp; exact hp.1
      | cons y q => rw [he] at hl; simp at hl
  | succ r ih =>
    intro k f hk2 hp
    have hlen := gs_ev_len (nm := nm) ht k (by omega)
    have hhk := gs_ht_le s t k
    obtain ⟨hA, hB⟩ := hst k (by omega)
    have hkM : ¬ nI M ≤ nI k := nI_ge (show k < M by omega) (by omega)
    have hhM : ¬ nI M ≤ nI (gs_ht s t k) := nI_ge (show gs_ht s t k < M by omega) (by omega)
    have push : ¬ s (66 + 200 * t + 2 * k) = nI 2 → ∀ v : Int32, v = (if s (66 + 200 * t + 2 * k) = 0 then s (67 + 200 * t + 2 * k) else nm (s (67 + 200 * t + 2 * k)).toNatClampNeg) → sx_V 3 (d + 2) 0 0 K 80 [(0, .ref ta), (1, .int a), (2, .int b), (3, .int c), (4, .int (nI (gs_ht s t k))), (5, .int (nI k))] [.int v, .int (nI (gs_ht s t k)), .ref tk] (sx_up I tk f) (sx_run rw m ln) := by
      intro c2 v hv
      have hht : gs_ht s t (k + 1) = gs_ht s t k + 1 := if_neg c2
      have hev : gs_ev nm s t (k + 1) = v :: gs_ev nm s t k := by
        show gs_op _ _ _ (gs_ev nm s t k) = _
        unfold gs_op; rw [if_neg c2, hv]
      have := ih (k + 1) (upd f (gs_ht s t k) v) (by omega) (by rw [hev]; exact ⟨by rw [hlen]; exact pk_us, gs_pile_upd _ _ _ _ (by omega) hp⟩)
      rw [hht] at this
      refine v_val80 hal3 hsh3 (by omega) (by omega) ?_
      rw [sx_upup, sx_up_same]
      exact this
    refine sx_go m3 100 rfl (fun VV CC hV hC => ?_)
    refine sx_s_il (n := 99) (cs := x3_8) rfl ?_
    refine sx_s_al (n := 98) (cs := x3_9) rfl ?_
    refine sx_s_getr (n := 97) (cs := x3_12) hal hsh hR ?_
    refine sx_s_len (n := 96) (cs := x3_13) hal2 hsh2 ?_
    refine ⟨fun (c1 : nI M ≤ nI k) => absurd c1 hkM, fun _ => ?_⟩
    refine sx_s_al (cs := x3_17) rfl ?_
    refine sx_s_getr (cs := x3_20) hal hsh hR ?_
    refine sx_s_il (cs := x3_22) rfl ?_
    refine sx_s_ild (cs := x3_23) hal2 hsh2 (by omega) rfl (show k < M by omega) ?_
    rw [n98]
    rcases hcode k (by omega) with ⟨w0, ec, h0⟩ | ⟨w1, n, ev, hn, ec⟩ | ⟨w2, n, ev, ec, hsg⟩
    · have c2 : ¬ s (66 + 200 * t + 2 * k) = nI 2 := by rw [w0]; decide +kernel
      rw [ec]
      refine ⟨fun (q : s (67 + 200 * t + 2 * k) < -3) => absurd (Int32.le_trans h0 (Int32.le_of_lt q)) (by decide +kernel), fun _ => ?_⟩
      refine sx_s_il (cs := x3_34) rfl ?_
      refine sx_s_al (cs := x3_35) rfl ?_
      refine sx_s_getr (cs := x3_38) hal hsh hR3 ?_
      refine sx_s_len (cs := x3_39) hal3 hsh3 ?_
      refine ⟨fun (q : nI M ≤ nI (gs_ht s t k)) => absurd q hhM, fun _ => ?_⟩
      refine sx_s_al (cs := x3_43) rfl ?_
      refine sx_s_getr (cs := x3_46) hal hsh hR3 ?_
      exact ⟨fun (q : s (67 + 200 * t + 2 * k) < 0) => absurd q (Int32.not_lt.mpr h0), fun _ => hV _ _ _ _ _ _ _ (push c2 _ (if_pos w0).symm)⟩
    · have c2 : ¬ s (66 + 200 * t + 2 * k) = nI 2 := by rw [w1]; decide +kernel
      have c3 : ¬ s (66 + 200 * t + 2 * k) = 0 := by rw [w1]; decide +kernel
      have hn128 : n < 128 := by rcases hn with ⟨-, h | h | h⟩ | ⟨-, h | h⟩ | ⟨-, h | h⟩ <;> omega
      have hv : ∀ v, v = nm n → v = (if s (66 + 200 * t + 2 * k) = 0 then s (67 + 200 * t + 2 * k) else nm (s (67 + 200 * t + 2 * k)).toNatClampNeg) := by
        intro v h
        rw [if_neg c3, ev, nI_clamp (by omega)]; exact h
      have hnm := hnm n hn
      rw [ec]
      have g3 : ¬ gb_nm n < -3 := by rcases gb_nm3 n with h | h | h <;> rw [h] <;> decide +kernel
      have l0 : gb_nm n < 0 := by rcases gb_nm3 n with h | h | h <;> rw [h] <;> decide +kernel
      refine ⟨fun (q : gb_nm n < -3) => absurd q g3, fun _ => ?_⟩
      refine sx_s_il (cs := x3_34) rfl ?_
      refine sx_s_al (cs := x3_35) rfl ?_
      refine sx_s_getr (cs := x3_38) hal hsh hR3 ?_
      refine sx_s_len (cs := x3_39) hal3 hsh3 ?_
      refine ⟨fun (q : nI M ≤ nI (gs_ht s t k)) => absurd q hhM, fun _ => ?_⟩
      refine sx_s_al (cs := x3_43) rfl ?_
      refine sx_s_getr (cs := x3_46) hal hsh hR3 ?_
      refine ⟨fun _ => ⟨fun (q1 : ¬ gb_nm n = -1) => ⟨fun (q3 : ¬ gb_nm n = -3) => hV _ _ _ _ _ _ _ (push c2 _ (hv _ ?_)), fun (q3 : gb_nm n = -3) => hV _ _ _ _ _ _ _ (push c2 _ (hv _ ?_))⟩, fun (q1 : gb_nm n = -1) => hV _ _ _ _ _ _ _ (push c2 _ (hv _ ?_))⟩, fun (q : ¬ gb_nm n < 0) => absurd l0 q⟩
      · rw [hnm, if_neg q1, if_neg q3]
      · rw [hnm, if_neg q1, if_pos q3]
      · rw [hnm, if_pos q1]
    · have hn128 : 33 ≤ n ∧ n < 128 := by rcases hsg with h | h | h | h | h | h | h | h | h | h <;> omega
      have en : ∀ b, b < 128 → (-nI n = -nI b ↔ n = b) := by
        intro b hb
        rw [← nI_eq (show n < 2 ^ 31 by omega) (show b < 2 ^ 31 by omega)]
        exact ⟨fun h => by have := congrArg (fun z => -z) h; simpa using this, fun h => by rw [h]⟩
      have lt3 : -nI n < -3 := by
        rcases hsg with h | h | h | h | h | h | h | h | h | h <;> rw [h] <;> decide +kernel
      have e33 : s (67 + 200 * t + 2 * k) = nI 33 ↔ n = 33 := by rw [ev]; exact nI_eq (by omega) (by omega)
      obtain ⟨h33, hn33⟩ := hA w2
      rw [ec]
      refine ⟨fun _ => ⟨fun (c3 : ¬ -nI n = -33) => ?_, fun (c3 : -nI n = -33) => ?_⟩, fun (q : ¬ -nI n < -3) => absurd lt3 q⟩
      · have n33 : ¬ n = 33 := fun h => c3 (by rw [h]; decide +kernel)
        have c4 : ¬ s (67 + 200 * t + 2 * k) = nI 33 := fun h => n33 (e33.mp h)
        have h2 := hn33 c4
        have hsg2 : gb_sg n := hsg.resolve_left n33
        refine ⟨fun (q : nI (gs_ht s t k) ≤ nI 1) => absurd q (nI_ge (by omega) (by omega)), fun _ => ?_⟩
        cases he : gs_ev nm s t k with
        | nil => rw [he] at hlen; simp at hlen; omega
        | cons y q1 =>
          cases q1 with
          | nil => rw [he] at hlen; simp at hlen; omega
          | cons x q =>
            rw [he] at hlen hp
            simp only [List.length_cons] at hlen
            obtain ⟨p1, p2, p3⟩ := hp
            simp only [List.length_cons] at p1
            have hev : gs_ev nm s t (k + 1) = gs_join (nI n) x y :: q := by
              show gs_op _ _ _ (gs_ev nm s t k) = _
              unfold gs_op; rw [if_pos w2, if_neg c4, he, ev]
            have hht : gs_ht s t (k + 1) = q.length + 1 := by
              show (if _ then _ else _) = _
              rw [if_pos w2, if_neg c4]; omega
            have i1 : nI (gs_ht s t k) + -1 = nI (q.length + 1) := by rw [gs_m1 (by omega)]; congr 1; omega
            have i2 : nI (gs_ht s t k) + -1 - nI 1 = nI q.length := by rw [i1, gs_sub1 (by omega)]; congr 1
            refine sx_s_inc (cs := x3_137) rfl rfl rfl ?_
            refine sx_s_al (cs := x3_138) rfl ?_
            refine sx_s_getr (cs := x3_141) hal hsh hR3 ?_
            refine sx_s_il (cs := x3_143) rfl ?_
            refine sx_s_k (cs := x3_144) ?_
            refine sx_s_sub (cs := x3_145) ?_
            refine sx_s_il (cs := x3_147) rfl ?_
            refine sx_s_neg (cs := x3_148) ?_
            refine sx_s_al (cs := x3_149) rfl ?_
            refine sx_s_getr (cs := x3_152) hal hsh hR3 ?_
            refine sx_s_il (cs := x3_154) rfl ?_
            refine sx_s_k (cs := x3_155) ?_
            refine sx_s_sub (cs := x3_156) ?_
            refine sx_s_ild (cs := x3_157) hal3 hsh3 (by omega) i2 (by omega) ?_
            refine sx_s_al (cs := x3_158) rfl ?_
            refine sx_s_getr (cs := x3_161) hal hsh hR3 ?_
            refine sx_s_il (cs := x3_163) rfl ?_
            refine sx_s_ild (cs := x3_164) hal3 hsh3 (by omega) i1 (by omega) ?_
            refine hC _ _ _ _ _ (c_workedOut (n := n) (by simp) hsg2 ?_)
            refine sx_s_ist (cs := x3_168h) hal3 hsh3 (by omega) i2 (by omega) (hV _ _ _ _ _ _ _ ?_)
            rw [sx_up_same, sx_upup, p1, p2]
            have := ih (k + 1) (upd f q.length (gs_join (nI n) x y)) (by omega) (by rw [hev]; exact ⟨pk_us, gs_pile_upd _ _ _ _ (Nat.le_refl _) p3⟩)
            rw [hht] at this
            have e4 : gs_join (- -nI n) x y = gs_join (nI n) x y := by rw [show - -nI n = nI n by simp]
            show sx_V 3 (d + 2) 0 0 K 168 [(0, .ref ta), (1, .int a), (2, .int b), (3, .int c), (4, .int (nI (gs_ht s t k) + -1)), (5, .int (nI k))] [] (sx_up I tk (upd f q.length (gs_join (- -nI n) x y))) _
            rw [i1, e4]
            exact v_val168 this
      · have n33 : n = 33 := (en 33 (by omega)).mp (by rw [c3]; decide +kernel)
        have c4 : s (67 + 200 * t + 2 * k) = nI 33 := e33.mpr n33
        have h2 := h33 c4
        refine ⟨fun (q : nI (gs_ht s t k) ≤ 0) => absurd q (nI_ge (a := 0) (by omega) (by omega)), fun _ => ?_⟩
        cases he : gs_ev nm s t k with
        | nil => rw [he] at hlen; simp at hlen; omega
        | cons x q =>
          rw [he] at hlen hp
          simp only [List.length_cons] at hlen
          obtain ⟨p1, p3⟩ := hp
          have hht : gs_ht s t (k + 1) = gs_ht s t k := by
            show (if _ then _ else _) = _
            rw [if_pos w2, if_pos c4]
          have hix : nI (gs_ht s t k) - nI 1 = nI q.length := by rw [gs_sub1 (by omega)]; congr 1; omega
          have fin : ∀ v : Int32, v = (if x = 0 then nI 1 else nI 0) → sx_V 3 (d + 2) 0 0 K 124 [(0, .ref ta), (1, .int a), (2, .int b), (3, .int c), (4, .int (nI (gs_ht s t k))), (5, .int (nI k))] [.int v, .int (nI (gs_ht s t k) - nI 1), .ref tk] (sx_up I tk f) (sx_run rw m ln) := by
            intro v hv
            have hev : gs_ev nm s t (k + 1) = v :: q := by
              show gs_op _ _ _ (gs_ev nm s t k) = _
              unfold gs_op; rw [if_pos w2, if_pos c4, he, hv]
            have := ih (k + 1) (upd f q.length v) (by omega) (by rw [hev]; exact ⟨pk_us, gs_pile_upd _ _ _ _ (Nat.le_refl _) p3⟩)
            rw [hht] at this
            refine v_val124 hal3 hsh3 (by omega) hix (by omega) ?_
            rw [sx_upup, sx_up_same]
            exact this
          refine sx_s_al (cs := x3_100) rfl ?_
          refine sx_s_getr (cs := x3_103) hal hsh hR3 ?_
          refine sx_s_il (cs := x3_105) rfl ?_
          refine sx_s_k (cs := x3_106) ?_
          refine sx_s_sub (cs := x3_107) ?_
          refine sx_s_al (cs := x3_108) rfl ?_
          refine sx_s_getr (cs := x3_111) hal hsh hR3 ?_
          refine sx_s_il (cs := x3_113) rfl ?_
          refine sx_s_k (cs := x3_114) ?_
          refine sx_s_sub (cs := x3_115) ?_
          refine sx_s_ild (cs := x3_116) hal3 hsh3 (by omega) hix (by omega) ?_
          refine ⟨fun (c5 : ¬ _ = _) => hV _ _ _ _ _ _ _ (fin _ ?_), fun (c5 : _ = _) => hV _ _ _ _ _ _ _ (fin _ ?_)⟩
          · rw [sx_up_same, p1] at c5; exact (if_neg c5).symm
          · rw [sx_up_same, p1] at c5; exact (if_pos c5).symm
theorem gb_tx1.obj {row : Nat → Option Nat} {t ta : Nat} {s : Nat → Int32} (ht : gb_tx1 I row m ln s t) (hr : row t = some ta) : sx_al (sx_run rw m ln) ta = true ∧ sx_sh (sx_run rw m ln) ta = (0, 5, 4) := by
  obtain ⟨u, M, h1, h2, -⟩ := ht
  cases h1.symm.trans hr
  exact ⟨sx_al_t (by omega), sx_sh_t u⟩
theorem c_valueOf {row : Nat → Option Nat} {t ta : Nat} {s : Nat → Int32} {a b c : Int32} {nm : Nat → Int32} (ht : gb_tx1 I row m ln s t) (hr : row t = some ta) (hnm : ∀ n, gs_nmok (s (62 + 200 * t)) n → nm n = if gb_nm n = -1 then a else if gb_nm n = -3 then c else b)
    (hk : ∀ I', gb_k I I' → K (some (.int (gs_work nm s t))) I' (sx_run rw m ln)) : sx_C 3 (d + 2) [.ref ta, .int a, .int b, .int c] I (sx_run rw m ln) K := by
  obtain ⟨u, M, h1, h2, h3, h4, h5, h6, h7⟩ := ht
  cases h1.symm.trans hr
  refine sx_enter (by decide +kernel) (Nat.le_of_ble_eq_true rfl) (sx_go m3 60 rfl (fun VV CC hV hC => ?_))
  have := v_valueOf (d := d) (tk := 202 + 3 * u) h6 h7 (sx_al_t (by omega)) (sx_sh_t u) (sx_mk_t u) (sx_mk_k u) (sx_al_t (by omega)) (by rw [sx_sh_c]; show (1, 0, ln (201 + 3 * u)) = _; rw [h5.1]) (by omega) (sx_al_t (by omega)) (by rw [sx_sh_k]; show (1, 0, ln (202 + 3 * u)) = _; rw [h5.2]) (by omega) (by omega) hnm (fun f => hk _ (gb_k.up I u f)) M 0 (I (202 + 3 * u)) (by omega) trivial
  rw [sx_upself] at this
  exact hV _ _ _ _ _ _ _ this
end
