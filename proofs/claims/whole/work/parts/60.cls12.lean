/-! ===== the class: fee, fine, texts told; what there is; images; rows that wait ===== -/
theorem gb.ag {b : Nat} {s s' : Nat → Int32} {I : sx_I} (h : gb b s I) (hT : gs_tn s) (ha : ∀ i, i < 2862 → s' i = s i) : gb b s' I := by
  obtain ⟨⟨h1, h2, h3, h4⟩, h5, h6, h7, h8⟩ := h
  refine ⟨⟨by rw [ha _ (by omega)]; exact h1, by rw [ha _ (by omega)]; exact h2, by rw [ha _ (by omega)]; exact h3, by rw [ha _ (by omega)]; exact h4⟩, fun w hw k hk => by rw [ha _ (by omega)]; exact h5 w hw k hk, fun w hw => by rw [ha _ (by omega)]; exact h6 w hw, fun w hw => by rw [ha _ (by omega)]; exact h7 w hw, fun w hw => by rw [gb.cnt hT (ha 1 (by omega)) (fun i _ h => ha i h) w]; exact h8 w hw⟩
section
variable {d m : Nat} {I : sx_I} {rw : Nat → Nat → Option Nat} {ln : Nat → Nat} {K : sx_K} {s : Nat → Int32}
theorem c1_fee (hb : gb 19 s I) (htx : gb_tx I (rw 19) m ln s) (hk : ∀ I', gb_k I I' → K (some (.int (gs_fee s))) I' (sx_run rw m ln)) : sx_C 80 (d + 3) [.ref 15] I (sx_run rw m ln) K := by
  obtain ⟨T, hT, hT14, hok, -⟩ := htx
  unfold gs_fee at hk
  rw [hT, nI_clamp (by omega)] at hk
  refine sx_enter (by decide +kernel) (Nat.le_of_ble_eq_true rfl) (sx_go m80 60 rfl (fun VV CC hV hC => ?_))
  refine hC _ _ _ _ _ (c_textFor_19 (w := 1) rfl (by omega) hb hT hT14 hok (fun e => ?_) (fun t ta ht e er => ?_))
  · refine ⟨1, ⟨rfl, by omega⟩, sx_kk ?_ (hk I (gb_k.rf I))⟩
    rw [gb_toll_19 hb (by omega), e, if_pos (by decide +kernel)]
  · have hkey := gs_counts_key s (nI 1) T t hT14 ht e
    obtain ⟨hal, hsh⟩ := (hok t ht).obj (rw := rw) er
    refine ⟨1, ⟨rfl, by omega⟩, 2, ⟨rfl, by omega⟩, ?_⟩
    rw [gb_toll_19 hb (by omega), gb_toll_19 hb (by omega)]
    refine sx_s_k (cs := x80_48) ?_
    refine sx_s_virt (cs := x80_51) rfl rfl rfl hal hsh ?_
    refine hC _ _ _ _ _ (c_valueOf (nm := upd (upd (fun _ => 0) 104 (s 8)) 108 (s 9)) (hok t ht) er (fun n hn => ?_) (fun I2 hI2 => sx_kk ?_ (hk _ hI2)))
    · rw [hkey] at hn
      rcases hn with ⟨q, -⟩ | ⟨-, rfl | rfl⟩ | ⟨q, -⟩
      · exact absurd q (by decide +kernel)
      · rfl
      · rfl
      · exact absurd q (by decide +kernel)
    · rw [e, if_neg (nI_pos (by omega)), nI_clamp (by omega)]
theorem c1_fine {g : Int32} (hb : gb 19 s I) (hi : gs_inv s) (htx : gb_tx I (rw 19) m ln s) (hk : ∀ I', gb_k I I' → K (some (.int (gs_fine s g))) I' (sx_run rw m ln)) : sx_C 81 (d + 3) [.ref 15, .int g] I (sx_run rw m ln) K := by
  obtain ⟨⟨n, hn, hn10⟩, -⟩ := id hi
  obtain ⟨T, hT, hT14, hok, -⟩ := htx
  unfold gs_fine at hk
  refine sx_enter (by decide +kernel) (Nat.le_of_ble_eq_true rfl) (sx_go m81 60 rfl (fun VV CC hV hC => ?_))
  refine hC _ _ _ _ _ (c_isGuard1 hb.1.1 ⟨fun (c0 : ¬ gs_in g 0 (s 0 - nI 1) = 0) => ?_, fun (c0 : gs_in g 0 (s 0 - nI 1) = 0) => sx_kk (if_pos c0).symm (hk I (gb_k.rf I))⟩)
  obtain ⟨j, rfl, hj⟩ := gs_guard hn hn10 c0
  rw [if_neg c0, nI_clamp (by omega)] at hk
  unfold gs_fineG at hk
  rw [hT, nI_clamp (by omega)] at hk
  refine hC _ _ _ _ _ (c_textFor_19 (w := 2) rfl (by omega) hb hT hT14 hok (fun e => ?_) (fun t ta ht e er => ?_))
  · refine ⟨j, ⟨rfl, by omega⟩, sx_kk ?_ (hk I (gb_k.rf I))⟩
    rw [gb_doubt_19 hb (by omega), e, if_pos (by decide +kernel)]
  · have hkey := gs_counts_key s (nI 2) T t hT14 ht e
    obtain ⟨hal, hsh⟩ := (hok t ht).obj (rw := rw) er
    refine ⟨j, ⟨rfl, by omega⟩, j, ⟨rfl, by omega⟩, ?_⟩
    rw [gb_wear_19 hb (by omega), gb_doubt_19 hb (by omega)]
    refine sx_s_k (cs := x81_59) ?_
    refine sx_s_virt (cs := x81_62) rfl rfl rfl hal hsh ?_
    refine hC _ _ _ _ _ (c_valueOf (nm := upd (upd (fun _ => 0) 119 (s (12 + 5 * j + 2))) 100 (s (12 + 5 * j + 3))) (hok t ht) er (fun n hn => ?_) (fun I2 hI2 => sx_kk ?_ (hk _ hI2)))
    · rw [hkey] at hn
      rcases hn with ⟨q, -⟩ | ⟨q, -⟩ | ⟨-, rfl | rfl⟩
      · exact absurd q (by decide +kernel)
      · exact absurd q (by decide +kernel)
      · rfl
      · rfl
    · rw [e, if_neg (nI_pos (by omega)), nI_clamp (by omega)]
theorem c1_why {k : Int32} (hb : gb 19 s I) (hk : K (some (.int (gs_why s k))) I (sx_run rw m ln)) : sx_C 86 (d + 3) [.ref 15, .int k] I (sx_run rw m ln) K := by
  unfold gs_why at hk
  refine sx_enter (by decide +kernel) (Nat.le_of_ble_eq_true rfl) (sx_go m86 60 rfl (fun VV CC hV hC => ?_))
  refine hC _ _ _ _ _ (c_isWithin ⟨fun (c0 : gs_in k (nI 0) (nI 2) = 0) => sx_kk (if_pos c0).symm hk, fun (c0 : ¬ gs_in k (nI 0) (nI 2) = 0) => ?_⟩)
  obtain ⟨j, rfl, -, hj⟩ := gs_in_nat (a := 0) (by omega) c0 (by decide)
  rw [if_neg (show ¬ gs_in (nI j) 0 (nI 2) = 0 from c0)] at hk
  exact ⟨j, ⟨rfl, by omega⟩, sx_kk (gb_cnt_19 hb (by omega)) hk⟩
theorem c_rowOf {t u T : Nat} {x : Int32} (hT : I 119 1 = nI T) (hx : x = nI t) (ht : t < T) (hT14 : T ≤ 14) (hr : rw 19 t = some u) (hk : K (some (.ref u)) I (sx_run rw m ln)) : sx_C 2 (d + 2) [.ref 119, .int x] I (sx_run rw m ln) K := by
  subst hx
  have hin : ¬ gs_in (nI t) (nI 0) (I 119 1 - nI 1) = 0 := by
    rw [hT, pk_sub (by omega)]
    exact gs_in_iff.mpr ⟨nI_le (by omega) (by omega), nI_le (by omega) (by omega)⟩
  refine sx_enter (by decide +kernel) (Nat.le_of_ble_eq_true rfl) (sx_go m2 60 rfl (fun VV CC hV hC => ?_))
  refine hC _ _ _ _ _ (c_isWithin ⟨fun (q : gs_in (nI t) (nI 0) (I 119 1 - nI 1) = 0) => absurd q hin, fun _ => ⟨t, ⟨rfl, by omega⟩, fun b2 (e : rw 19 t = some b2) => ?_, fun (e : rw 19 t = none) => ?_⟩⟩)
  · rw [hr] at e
    cases e
    exact hk
  · rw [hr] at e; cases e
theorem c_rowOfN {x : Int32} (hin : gs_in x (nI 0) (I 119 1 - nI 1) = 0) (hk : K (some .null) I (sx_run rw m ln)) : sx_C 2 (d + 2) [.ref 119, .int x] I (sx_run rw m ln) K := by
  refine sx_enter (by decide +kernel) (Nat.le_of_ble_eq_true rfl) (sx_go m2 60 rfl (fun VV CC hV hC => ?_))
  exact hC _ _ _ _ _ (c_isWithin ⟨fun _ => hk, fun q => absurd hin q⟩)
theorem c1_textTold {t w : Int32} (hb : gb 19 s I) (htx : gb_tx I (rw 19) m ln s) (hk : K (some (.int (gs_textTold s t w))) I (sx_run rw m ln)) : sx_C 85 (d + 3) [.ref 15, .int t, .int w] I (sx_run rw m ln) K := by
  obtain ⟨T, hT, hT14, hok, -⟩ := htx
  unfold gs_textTold at hk
  have bad : (gs_in t 0 (s 1 - nI 1) = 0 ∨ gs_in w 0 (nI 1) = 0) → K (some (.int (-1000000001))) I (sx_run rw m ln) := fun h => by rw [if_pos h] at hk; exact hk
  refine sx_enter (by decide +kernel) (Nat.le_of_ble_eq_true rfl) (sx_go m85 60 rfl (fun VV CC hV hC => ?_))
  have e1 : I 119 1 = s 1 := hb.1.2.2.2
  by_cases c1 : gs_in t 0 (s 1 - nI 1) = 0
  · exact hC _ _ _ _ _ (c_rowOfN (by rw [e1]; exact c1) (bad (Or.inl c1)))
  obtain ⟨j, rfl, hj⟩ := gs_place hT (by omega) c1
  obtain ⟨u, M, h1, h2, h3, h4, h5, h6, h7⟩ := hok j hj
  have hal : sx_al (sx_run rw m ln) (200 + 3 * u) = true := sx_al_t (by omega)
  have hsh : sx_sh (sx_run rw m ln) (200 + 3 * u) = (0, 5, 4) := sx_sh_t u
  generalize 200 + 3 * u = ta at *
  have val : ∀ c, w = nI c → c ≤ 1 → K (some (.int (s (62 + 200 * j + c)))) I (sx_run rw m ln) := by
    intro c hw hc
    rw [if_neg (fun h => h.elim c1 (by rw [hw]; exact gs_in_c hc (by omega))), hw, nI_clamp (by omega), nI_clamp (by omega)] at hk
    exact hk
  refine hC _ _ _ _ _ (c_rowOf (e1.trans hT) rfl hj hT14 h1 ⟨fun (c2 : ¬ w = 0) => ⟨fun (c3 : ¬ w = nI 1) => bad (Or.inr ?_), fun (c3 : w = nI 1) => ?_⟩, fun (c2 : w = 0) => ?_⟩)
  · refine Decidable.byContradiction (fun h => ?_)
    obtain ⟨c, hw, -, hc⟩ := gs_in_nat (a := 0) (by omega) h (by decide)
    have : c = 0 ∨ c = 1 := by omega
    rcases this with rfl | rfl
    · exact c2 hw
    · exact c3 hw
  · refine sx_s_al (cs := x85_36) rfl ?_
    refine sx_s_geti (cs := x85_39) hal hsh ?_
    rw [h4, show 63 + 200 * j = 62 + 200 * j + 1 by omega]
    exact val 1 c3 (by omega)
  · refine sx_s_al (cs := x85_24) rfl ?_
    refine sx_s_geti (cs := x85_27) hal hsh ?_
    rw [h3]
    exact val 0 c2 (by omega)
theorem c1_count {w : Int32} (hb : gb 19 s I) (hk : K (some (.int (gs_count s (I 15 11) (I 15 7) w))) I (sx_run rw m ln)) : sx_C 100 (d + 2) [.ref 15, .int w] I (sx_run rw m ln) K := by
  refine sx_enter (by decide +kernel) (Nat.le_of_ble_eq_true rfl) (sx_go m100 60 rfl (fun VV CC hV hC => ?_))
  unfold gs_count at hk
  refine ⟨fun (c0 : w = nI 0) => ?_, fun (c0 : ¬ w = nI 0) => ⟨fun (c1 : w = nI 1) => ?_, fun (c1 : ¬ w = nI 1) => ⟨fun (c2 : w = nI 2) => ?_, fun (c2 : ¬ w = nI 2) => ⟨fun (c3 : w = nI 3) => ?_, fun (c3 : ¬ w = nI 3) => ⟨fun (c4 : w = nI 4) => ?_, fun (c4 : ¬ w = nI 4) => ⟨fun (c5 : w = nI 5) => ?_, fun (c5 : ¬ w = nI 5) => ⟨fun (c6 : w = nI 6) => ?_, fun (c6 : ¬ w = nI 6) => ⟨fun (c7 : w = nI 7) => ?_, fun (c7 : ¬ w = nI 7) => ⟨fun (c8 : w = nI 8) => ?_, fun (c8 : ¬ w = nI 8) => ⟨fun (c9 : w = nI 9) => ?_, fun (c9 : ¬ w = nI 9) => ?_⟩⟩⟩⟩⟩⟩⟩⟩⟩⟩
  · rw [if_pos (show w = 0 from c0)] at hk; exact sx_kk hb.1.1 hk
  · rw [if_neg (show ¬ w = 0 from c0), if_pos c1] at hk; exact sx_kk hb.1.2.1 hk
  · rw [if_neg (show ¬ w = 0 from c0), if_neg c1, if_pos c2] at hk; exact ⟨0, ⟨rfl, by omega⟩, sx_kk (gb_rule_19 hb (by omega)) hk⟩
  · rw [if_neg (show ¬ w = 0 from c0), if_neg c1, if_neg c2, if_pos c3] at hk; exact ⟨1, ⟨rfl, by omega⟩, sx_kk (gb_rule_19 hb (by omega)) hk⟩
  · rw [if_neg (show ¬ w = 0 from c0), if_neg c1, if_neg c2, if_neg c3, if_pos c4] at hk; exact ⟨2, ⟨rfl, by omega⟩, sx_kk (gb_rule_19 hb (by omega)) hk⟩
  · rw [if_neg (show ¬ w = 0 from c0), if_neg c1, if_neg c2, if_neg c3, if_neg c4, if_pos c5] at hk; exact ⟨3, ⟨rfl, by omega⟩, sx_kk (gb_rule_19 hb (by omega)) hk⟩
  · rw [if_neg (show ¬ w = 0 from c0), if_neg c1, if_neg c2, if_neg c3, if_neg c4, if_neg c5, if_pos c6] at hk; exact sx_kk hb.1.2.2.2 hk
  · rw [if_neg (show ¬ w = 0 from c0), if_neg c1, if_neg c2, if_neg c3, if_neg c4, if_neg c5, if_neg c6, if_pos c7] at hk; exact hk
  · rw [if_neg (show ¬ w = 0 from c0), if_neg c1, if_neg c2, if_neg c3, if_neg c4, if_neg c5, if_neg c6, if_neg c7, if_pos c8] at hk; exact hk
  · rw [if_neg (show ¬ w = 0 from c0), if_neg c1, if_neg c2, if_neg c3, if_neg c4, if_neg c5, if_neg c6, if_neg c7, if_neg c8, if_pos c9] at hk; exact sx_kk hb.1.2.2.1 hk
  · rw [if_neg (show ¬ w = 0 from c0), if_neg c1, if_neg c2, if_neg c3, if_neg c4, if_neg c5, if_neg c6, if_neg c7, if_neg c8, if_neg c9] at hk; exact hk
theorem c1_trim {t : Nat} {v : Int32} (ht : I 15 7 = nI t) (ht9 : t ≤ 96) (hk : K (some (.int (gs_trim (I 15 7) v))) (if gs_in v 0 (I 15 7) = 0 then I else sx_up I 15 (upd (I 15) 7 v)) (sx_run rw m ln)) : sx_C 83 (d + 2) [.ref 15, .int v] I (sx_run rw m ln) K := by
  unfold gs_trim at hk
  refine sx_enter (by decide +kernel) (Nat.le_of_ble_eq_true rfl) (sx_go m83 60 rfl (fun VV CC hV hC => ?_))
  refine hC _ _ _ _ _ (c_isWithin ⟨fun (c1 : ¬ gs_in v (nI 0) (I 15 7) = 0) => ?_, fun (c1 : gs_in v (nI 0) (I 15 7) = 0) => ?_⟩)
  · rw [if_neg (show ¬ gs_in v 0 (I 15 7) = 0 from c1), if_neg (show ¬ gs_in v 0 (I 15 7) = 0 from c1)] at hk; exact hk
  · rw [if_pos (show gs_in v 0 (I 15 7) = 0 from c1), if_pos (show gs_in v 0 (I 15 7) = 0 from c1)] at hk; exact hk
theorem c1_tell {W : Nat} {v : Int32} (hw : I 15 11 = nI W) (hW : W ≤ 60) (hk0 : W = 60 → K (some (.int (-1000000003))) I (sx_run rw m ln)) (hk : W < 60 → K (some (.int (nI (W + 1)))) (sx_up (sx_up I 53 (upd (I 53) W v)) 15 (upd (I 15) 11 (nI (W + 1)))) (sx_run rw m ln)) : sx_C 96 (d + 1) [.ref 15, .int v] I (sx_run rw m ln) K := by
  refine sx_enter (by decide +kernel) (Nat.le_of_ble_eq_true rfl) (sx_go m96 60 rfl (fun VV CC hV hC => ?_))
  refine ⟨fun (c1 : I 15 11 < nI 60) => ?_, fun (c1 : ¬ I 15 11 < nI 60) => ?_⟩
  · rw [hw, nI_ltI (by omega) (by omega)] at c1
    have := hk c1
    rw [← nI_add, ← hw] at this
    exact ⟨W, ⟨hw, by omega⟩, this⟩
  · rw [hw, nI_ltI (by omega) (by omega)] at c1
    exact hk0 (by omega)
theorem c1_keep (hb : gb 19 s I) (hro : gb_ro (rw 19) m) (hk : ∀ J, gb_fr 28 I J → gb 28 s J → K (some (.int (s 0))) (sx_up J 15 (upd (J 15) 4 (nI 1))) (sx_run (gb_cp rw 28 19 14) m ln)) : sx_C 98 (d + 3) [.ref 15] I (sx_run rw m ln) K := by
  refine sx_enter (by decide +kernel) (Nat.le_of_ble_eq_true rfl) (sx_go m98 60 rfl (fun VV CC hV hC => ?_))
  refine hC _ _ _ _ _ (c_become_28_19 hb hro (fun J f b => ⟨Or.inr rfl, sx_kk ?_ (hk J f b)⟩))
  exact b.1.1
theorem c1_back {im : Nat → Int32} (h0 : I 15 4 = 0 → K (some (.int (-1000000002))) I (sx_run rw m ln)) (hb : ¬ I 15 4 = 0 → gb 28 im I) (hro : gb_ro (rw 28) m) (hk : ∀ J, ¬ I 15 4 = 0 → gb_fr 19 I J → gb 19 im J → K (some (.int (im 0))) J (sx_run (gb_cp rw 19 28 14) m ln)) : sx_C 99 (d + 3) [.ref 15] I (sx_run rw m ln) K := by
  refine sx_enter (by decide +kernel) (Nat.le_of_ble_eq_true rfl) (sx_go m99 60 rfl (fun VV CC hV hC => ?_))
  exact ⟨fun (c1 : ¬ I 15 4 = 0) => hC _ _ _ _ _ (c_become_19_28 (hb c1) hro (fun J f b => sx_kk b.1.1 (hk J c1 f b))), fun (c1 : I 15 4 = 0) => h0 c1⟩
theorem v1_check114 {im W : Nat → Int32} {M D i : Nat} {x : Int32} (hM : M ≤ 60) (hD : D ≤ 60) (hi : i < D) (hW : ∀ q, q < M → I 53 q = W q) (hx : x = gs_due im i) (hbef : ∀ q, q < i → q < M ∧ W q = gs_due im q) (hk : K (some (.int (gs_ckA W im M D))) I (sx_run rw m ln))
    (hn : i < M → W i = gs_due im i → sx_V 97 (d + 1) 0 0 K 65 [(0, .ref 15), (2, .int (nI M)), (3, .int (nI D)), (4, .int (nI (i + 1)))] [] I (sx_run rw m ln)) :
    sx_V 97 (d + 1) 0 0 K 114 [(0, .ref 15), (2, .int (nI M)), (3, .int (nI D)), (4, .int (nI i)), (5, .int x)] [] I (sx_run rw m ln) := by
  have hans : gs_fst (gs_ckF W im) (min M D) = i → ¬ (i = M ∧ i = D) → K (some (.int (nI 1 + nI i))) I (sx_run rw m ln) := by
    intro h h2
    unfold gs_ckA at hk
    rw [h, if_neg h2] at hk
    exact hk
  have hff : ∀ q, q < i → gs_ckF W im q = false := fun q hq => decide_eq_false (fun h => h (hbef q hq).2)
  refine sx_go m97 60 rfl (fun VV CC hV hC => ?_)
  refine ⟨fun (c1 : nI M ≤ nI i) => ?_, fun (c1 : ¬ nI M ≤ nI i) => ?_⟩
  · rw [nI_leI (by omega) (by omega)] at c1
    refine hans ?_ (by omega)
    have hiM : i = M := by
      rcases Nat.eq_zero_or_pos i with rfl | h
      · omega
      · have := (hbef (i - 1) (by omega)).1; omega
    rw [show min M D = i by omega]
    exact gs_fst_none _ _ hff
  · rw [nI_leI (by omega) (by omega)] at c1
    refine ⟨i, ⟨rfl, by omega⟩, fun (c2 : I 53 i = x) => ?_, fun (c2 : ¬ I 53 i = x) => ?_⟩
    · rw [hW i (by omega), hx] at c2
      have := hn (by omega) c2
      rw [nI_succ i] at this
      exact hV _ _ _ _ _ _ _ this
    · rw [hW i (by omega), hx] at c2
      exact hans (gs_fst_at _ _ i (by omega) hff (decide_eq_true c2)) (by omega)
theorem v1_check86 {im W : Nat → Int32} {n M D i : Nat} (hM : M ≤ 60) (hD : D ≤ 60) (hi : i < D) (hb : gb 37 (gs_many (i / 2 + 1) im) I) (hn0 : gs_many (i / 2 + 1) im 0 = nI n) (hn10 : n ≤ 10) (hW : ∀ q, q < M → I 53 q = W q) (hbef : ∀ q, q < i → q < M ∧ W q = gs_due im q) (hk : K (some (.int (gs_ckA W im M D))) I (sx_run rw m ln))
    (hn : i < M → W i = gs_due im i → sx_V 97 (d + 3) 0 0 K 65 [(0, .ref 15), (2, .int (nI M)), (3, .int (nI D)), (4, .int (nI (i + 1)))] [] I (sx_run rw m ln)) :
    sx_V 97 (d + 3) 0 0 K 86 [(0, .ref 15), (2, .int (nI M)), (3, .int (nI D)), (4, .int (nI i))] [] I (sx_run rw m ln) := by
  have nxt : ∀ x, x = gs_due im i → sx_V 97 (d + 3) 0 0 K 114 [(0, .ref 15), (2, .int (nI M)), (3, .int (nI D)), (4, .int (nI i)), (5, .int x)] [] I (sx_run rw m ln) := fun x hx => v1_check114 (d := d + 2) hM hD hi hW hx hbef hk hn
  have er : nI i - nI i / nI 2 * nI 2 = nI (i % 2) := gs_remn (by omega) (by omega) (by omega)
  refine sx_go m97 60 rfl (fun VV CC hV hC => ?_)
  refine ⟨by decide +kernel, fun (c1 : ¬ nI i - nI i / nI 2 * nI 2 = 0) => ?_, fun (c1 : nI i - nI i / nI 2 * nI 2 = 0) => ?_⟩
  · rw [er] at c1
    refine hC _ _ _ _ _ (c_doubts_37 hb hn0 hn10 (hV _ _ _ _ _ _ _ (nxt _ ?_)))
    unfold gs_due
    rw [if_neg (fun h => c1 (by rw [h]; rfl))]
  · rw [er] at c1
    refine ⟨0, ⟨rfl, by omega⟩, hV _ _ _ _ _ _ _ (nxt _ ?_)⟩
    have h2 : i % 2 = 0 := by
      refine Decidable.byContradiction (fun h => ?_)
      exact nI_ne0 (n := i % 2) (by omega) (by omega) c1
    unfold gs_due
    rw [if_pos h2]
    exact gb_toll_37 hb (by omega)
theorem v1_check {im W : Nat → Int32} {n t0 M D : Nat} (hi : gs_inv im) (htx : gb_tx I (rw 37) m ln im) (hn : im 0 = nI n) (hn10 : n ≤ 10) (hnt : im 2 = nI t0) (ht0 : t0 ≤ 9999) (hM : M ≤ 60) (hD : D ≤ 60) (hW : ∀ q, q < M → I 53 q = W q) (hk : ∀ I', gb_fr 37 I I' → K (some (.int (gs_ckA W im M D))) I' (sx_run rw m ln)) :
    ∀ (r i : Nat) (I' : sx_I), i + r = D → (gb_fr 37 I I' ∧ gb 37 (gs_many ((i + 1) / 2) im) I' ∧ ∀ q, q < i → q < M ∧ W q = gs_due im q) → sx_V 97 (d + 6) 0 0 K 65 [(0, .ref 15), (2, .int (nI M)), (3, .int (nI D)), (4, .int (nI i))] [] I' (sx_run rw m ln) := by
  refine sx_for D (fun I' h => ?_) (fun i I' hic h ih => ?_)
  · obtain ⟨hf, hb, hbef⟩ := h
    have hk := hk I' hf
    have hDM : D ≤ M := by
      rcases Nat.eq_zero_or_pos D with h | h
      · omega
      · have := (hbef (D - 1) (by omega)).1; omega
    have hff : ∀ q, q < D → gs_ckF W im q = false := fun q hq => decide_eq_false (fun h => h (hbef q hq).2)
    unfold gs_ckA at hk
    rw [show min M D = D by omega, gs_fst_none _ _ hff] at hk
    refine sx_go m97 60 rfl (fun VV CC hV hC => ?_)
    refine ⟨fun _ => ⟨fun (c2 : nI M ≤ nI D) => ?_, fun (c2 : ¬ nI M ≤ nI D) => ?_⟩, fun (c1 : ¬ nI D ≤ nI D) => absurd (Int32.le_refl _) c1⟩
    · rw [nI_leI (by omega) (by omega)] at c2
      rw [if_pos ⟨by omega, rfl⟩] at hk; exact hk
    · rw [nI_leI (by omega) (by omega)] at c2
      rw [if_neg (by omega)] at hk; exact hk
  · obtain ⟨hf, hb, hbef⟩ := h
    have er : nI i - nI i / nI 2 * nI 2 = nI (i % 2) := gs_remn (by omega) (by omega) (by omega)
    have go : ∀ I2, gb_fr 37 I I2 → gb 37 (gs_many (i / 2 + 1) im) I2 → sx_V 97 (d + 6) 0 0 K 86 [(0, .ref 15), (2, .int (nI M)), (3, .int (nI D)), (4, .int (nI i))] [] I2 (sx_run rw m ln) := by
      intro I2 f2 b2
      refine v1_check86 (d := d + 3) (n := n) hM hD hic b2 ((gs_lo.many hn hn10 _).1.trans hn) hn10 (fun q hq => by rw [f2 53 (by omega) (by omega)]; exact hW q hq) hbef (hk I2 f2) (fun h1 h2 => ih I2 ⟨f2, ?_, fun q hq => ?_⟩)
      · rw [show (i + 1 + 1) / 2 = i / 2 + 1 by omega]; exact b2
      · rcases Nat.lt_or_ge q i with h | h
        · exact hbef q h
        · have : q = i := by omega
          subst this; exact ⟨h1, h2⟩
    refine sx_go m97 60 rfl (fun VV CC hV hC => ?_)
    refine ⟨fun (c1 : nI D ≤ nI i) => absurd c1 (nI_ge hic (by omega)), fun _ => ⟨by decide +kernel, fun (c2 : ¬ nI i - nI i / nI 2 * nI 2 = 0) => hV _ _ _ _ _ _ _ (go I' hf ?_), fun (c2 : nI i - nI i / nI 2 * nI 2 = 0) => ?_⟩⟩
    · rw [er] at c2
      have : i % 2 ≠ 0 := fun h => c2 (by rw [h]; rfl)
      rw [show i / 2 + 1 = (i + 1) / 2 by omega]; exact hb
    · rw [er] at c2
      have h2 : i % 2 = 0 := by
        refine Decidable.byContradiction (fun h => ?_)
        exact nI_ne0 (n := i % 2) (by omega) (by omega) c2
      rw [show (i + 1) / 2 = i / 2 by omega] at hb
      exact hC _ _ _ _ _ (c_pass_37 hb (hi.many _) (htx.lo (hf.hi (by omega)) (gs_lo.many hn hn10 _)) (gs_many_2 hnt _) (by omega) (fun I2 f2 b2 => hV _ _ _ _ _ _ _ (go I2 (hf.tr f2) b2)))
theorem c1_check {im W : Nat → Int32} {t0 M : Nat} {v : Int32} (hw : I 15 11 = nI M) (hM : M ≤ 60) (hW : ∀ q, q < M → I 53 q = W q)
    (h1 : gs_in v (nI 1) (nI 30) = 0 → K (some (.int (-1000000001))) (sx_up I 15 (upd (I 15) 11 (nI 0))) (sx_run rw m ln)) (h2 : ¬ gs_in v (nI 1) (nI 30) = 0 → I 15 4 = 0 → K (some (.int (-1000000002))) (sx_up I 15 (upd (I 15) 11 (nI 0))) (sx_run rw m ln))
    (hb : ¬ I 15 4 = 0 → gb 28 im I ∧ gs_inv im ∧ gb_tx I (rw 28) m ln im ∧ im 2 = nI t0 ∧ t0 ≤ 9999) (hk : ∀ I', ¬ gs_in v (nI 1) (nI 30) = 0 → ¬ I 15 4 = 0 → gb_fr 37 (sx_up I 15 (upd (I 15) 11 (nI 0))) I' → K (some (.int (gs_ckA W im M (2 * gs_ckN v (im 2))))) I' (sx_run (gb_cp rw 37 28 14) m ln)) : sx_C 97 (d + 6) [.ref 15, .int v] I (sx_run rw m ln) K := by
  refine sx_enter (by decide +kernel) (Nat.le_of_ble_eq_true rfl) (sx_go m97 60 rfl (fun VV CC hV hC => ?_))
  refine hC _ _ _ _ _ (c_isWithin ⟨fun (c1 : ¬ gs_in v (nI 1) (nI 30) = 0) => ⟨fun (c2 : ¬ I 15 4 = 0) => ?_, fun (c2 : I 15 4 = 0) => h2 c1 c2⟩, fun (c1 : gs_in v (nI 1) (nI 30) = 0) => h1 c1⟩)
  obtain ⟨b28, hi, htx, hnt, ht0⟩ := hb c2
  obtain ⟨⟨n, hn, hn10⟩, -⟩ := id hi
  obtain ⟨c, rfl, h3, h4⟩ := gs_in_nat (by decide) c1 (by decide)
  have hk := fun I' => hk I' c1 c2
  have eN : gs_ckN (nI c) (im 2) = min c (9999 - t0) := by
    unfold gs_ckN
    rw [hnt, nI_clamp (by omega), nI_clamp (by omega)]
  rw [eN] at hk
  have b28' : gb 28 im (sx_up I 15 (upd (I 15) 11 (nI 0))) := by
    obtain ⟨⟨q1, q2, q3, q4⟩, q5, q6, q7, q8⟩ := b28
    exact ⟨⟨by rw [sx_up_ne (by omega)]; exact q1, by rw [sx_up_ne (by omega)]; exact q2, by rw [sx_up_ne (by omega)]; exact q3, by rw [sx_up_ne (by omega)]; exact q4⟩, fun w hw k hk => by rw [sx_up_ne (by omega)]; exact q5 w hw k hk, fun w hw => by rw [sx_up_ne (by omega)]; exact q6 w hw, fun w hw => by rw [sx_up_ne (by omega)]; exact q7 w hw, fun w hw => by rw [sx_up_ne (by omega)]; exact q8 w hw⟩
  refine hC _ _ _ _ _ (c_become_37_28 b28' htx.ro (fun I1 f1 b1 => hC _ _ _ _ _ (c_min (hV _ _ _ _ _ _ _ ?_))))
  have e28 : I1 28 9 = nI t0 := by
    rw [f1 28 (by omega) (by omega), sx_up_ne (by omega)]
    exact b28.1.2.1.trans hnt
  have em : nI 2 * gs_min (nI c) (nI 9999 - I1 28 9) = nI (2 * min c (9999 - t0)) := by
    rw [e28, pk_sub (by omega), ← pk_mul]
    unfold gs_min
    by_cases h : 9999 - t0 < c
    · rw [if_pos (nI_lt h (by omega)), show min c (9999 - t0) = 9999 - t0 by omega]
    · rw [if_neg (nI_nlt (by omega) (by omega)), show min c (9999 - t0) = c by omega]
  rw [em, hw]
  refine v1_check (d := d) (I := I1) (W := W) (im := im) hi (gb_tx.cp (rw := rw) (S := 28) 37 (htx.cg (fun a ha hc => (f1 a (by omega) (by omega)).trans (sx_up_ne (by omega))) rfl (fun _ _ _ => rfl))) hn hn10 hnt ht0 hM (by omega) (fun q hq => by rw [f1 53 (by omega) (by omega), sx_up_ne (by omega)]; exact hW q hq) (fun I' h => hk I' (f1.tr h)) (2 * min c (9999 - t0)) 0 I1 (by omega) ⟨gb_fr.rf _ _, b1, fun q hq => absurd hq (Nat.not_lt_zero q)⟩
end
