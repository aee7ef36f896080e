/-! ===== the class: watchers; a night; one border becomes as another ===== -/
section
variable {d m : Nat} {I : sx_I} {rw : Nat → Nat → Option Nat} {ln : Nat → Nat} {K : sx_K} {s : Nat → Int32}
theorem v_watch51_19 {k : Nat} {p x : Int32} (hb : gb 19 s I) (hk10 : k < 10) (h : sx_V 23 (d + 3) 0 0 K 2 [(0, .ref 19), (1, .int p), (2, .int (nI (k + 1)))] [] (sx_up I 23 (upd (I 23) k (gs_wi (s (12 + 5 * k + 3) + x) (nI 99)))) (sx_run rw m ln)) :
    sx_V 23 (d + 3) 0 0 K 51 [(0, .ref 19), (1, .int p), (2, .int (nI k)), (3, .int x)] [] I (sx_run rw m ln) := by
  rw [nI_succ k] at h
  refine sx_go m23 60 rfl (fun VV CC hV hC => ?_)
  refine ⟨k, ⟨rfl, by omega⟩, hC _ _ _ _ _ (c_held ⟨k, ⟨rfl, by omega⟩, hV _ _ _ _ _ _ _ ?_⟩)⟩
  rw [gb_doubt_19 hb hk10]
  exact h
theorem v_watch_19 {n q t0 : Nat} {p : Int32} (hi : gs_inv s) (hn : s 0 = nI n) (hn10 : n ≤ 10) (htx : gb_tx I (rw 19) m ln s) (hnt : s 2 = nI t0) (ht0 : t0 < 2 ^ 31) (hp : p = nI q) (hq : q < 20) (hk : ∀ I', gb_fr 19 I I' → gb 19 (gs_it (gs_watch1 p) n s) I' → K none I' (sx_run rw m ln)) :
    ∀ (r k : Nat) (I' : sx_I), k + r = n → (gb_fr 19 I I' ∧ gb 19 (gs_it (gs_watch1 p) k s) I') → sx_V 23 (d + 4) 0 0 K 2 [(0, .ref 19), (1, .int p), (2, .int (nI k))] [] I' (sx_run rw m ln) := by
  have hlo : ∀ k, k ≤ 10 → gs_lo s (gs_it (gs_watch1 p) k s) := fun k hk => gs_lo.it s k (fun k' s hk' => gs_lo.watch1 p k' s (by omega))
  refine sx_for n (fun I' h => ?_) (fun k I' hkc h ih => ?_)
  · obtain ⟨hf, hb⟩ := h
    refine sx_go m23 60 rfl (fun VV CC hV hC => ?_)
    refine ⟨fun _ => hk I' hf hb, fun (c1 : ¬ I' 19 1 ≤ nI n) => ?_⟩
    exfalso; rw [hb.1.1, (hlo n hn10).1, hn] at c1; exact c1 (Int32.le_refl _)
  · obtain ⟨hf, hb⟩ := h
    have hl := hlo k (by omega)
    have hik : gs_inv (gs_it (gs_watch1 p) k s) := hi.it (fun k s _ hs => hs.watch1 p k) k (by omega)
    have e2 : gs_it (gs_watch1 p) k s 2 = nI t0 := (gs_ke.it (fun k s => gs_ke.watch1 p k s) s k 2 (by omega) (by omega)).trans hnt
    refine sx_go m23 60 rfl (fun VV CC hV hC => ?_)
    refine ⟨fun (c1 : I' 19 1 ≤ nI k) => ?_, fun _ => hC _ _ _ _ _ (c_sight_19 rfl (by omega) hp hq hb hik ⟨fun (c2 : gb_sight (gs_it (gs_watch1 p) k s) k p = 0) => hV _ _ _ _ _ _ _ ?_, fun (c2 : ¬ gb_sight (gs_it (gs_watch1 p) k s) k p = 0) => ?_⟩)⟩
    · exfalso; rw [hb.1.1, hl.1, hn] at c1; exact nI_ge hkc (by omega) c1
    · have c3 : gs_it (gs_watch1 p) k s 3 < gs_off (gs_it (gs_watch1 p) k s (12 + 5 * k + 1)) p := by
        unfold gb_sight at c2
        by_cases h : gs_it (gs_watch1 p) k s 3 < gs_off (gs_it (gs_watch1 p) k s (12 + 5 * k + 1)) p
        · exact h
        · rw [if_neg h] at c2; exact absurd c2 (by decide +kernel)
      have := ih I' ⟨hf, by rw [gs_it, gs_watch1_t c3]; exact hb⟩
      rw [nI_succ] at this
      exact this
    · have c3 : ¬ gs_it (gs_watch1 p) k s 3 < gs_off (gs_it (gs_watch1 p) k s (12 + 5 * k + 1)) p := by
        unfold gb_sight at c2
        intro h
        rw [if_pos h] at c2; exact c2 rfl
      have fin : ∀ (I2 : sx_I) (x : Int32), gb_k I' I2 → x = gs_by (gs_it (gs_watch1 p) k s) k → sx_V 23 (d + 4) 0 0 K 51 [(0, .ref 19), (1, .int p), (2, .int (nI k)), (3, .int x)] [] I2 (sx_run rw m ln) := by
        intro I2 x h2 hx
        have hb2 := h2.gb hb (by omega)
        refine v_watch51_19 (d := d + 1) hb2 (by omega) ?_
        refine ih _ ⟨(hf.tr h2.fr).tr (gb_fr.up I2 23 _ (by omega) (by omega)), ?_⟩
        rw [gs_it, gs_watch1_f c3, hx]
        exact hb2.set (w := 3) (by omega) (by omega) _ (hl.tn htx.tn)
      refine ⟨k, ⟨rfl, by omega⟩, fun (c4 : ¬ I' 24 k = 0) => hC _ _ _ _ _ (c_looksOf_19 rfl (by omega) hb (htx.lo (hf.hi (by omega)) hl) e2 ht0 (fun I2 h2 => ⟨fun (c5 : nI 40 ≤ gs_looks (gs_it (gs_watch1 p) k s) k) => hV _ _ _ _ _ _ _ (fin I2 _ h2 ?_), fun (c5 : ¬ nI 40 ≤ gs_looks (gs_it (gs_watch1 p) k s) k) => hV _ _ _ _ _ _ _ (fin I2 _ h2 ?_)⟩)), fun (c4 : I' 24 k = 0) => hV _ _ _ _ _ _ _ (fin I' _ (gb_k.rf _) ?_)⟩
      · rw [gb_up_19 hb (by omega)] at c4
        unfold gs_by
        rw [if_neg c4, if_neg (Int32.not_lt.mpr c5)]
      · rw [gb_up_19 hb (by omega)] at c4
        unfold gs_by
        rw [if_neg c4, if_pos (Int32.not_le.mp c5)]
      · rw [gb_up_19 hb (by omega)] at c4
        unfold gs_by
        rw [if_pos c4]
theorem c_watch_19 {n q t0 : Nat} {p : Int32} (hb : gb 19 s I) (hi : gs_inv s) (hn : s 0 = nI n) (hn10 : n ≤ 10) (htx : gb_tx I (rw 19) m ln s) (hnt : s 2 = nI t0) (ht0 : t0 < 2 ^ 31) (hp : p = nI q) (hq : q < 20) (hk : ∀ I', gb_fr 19 I I' → gb 19 (gs_it (gs_watch1 p) n s) I' → K none I' (sx_run rw m ln)) : sx_C 23 (d + 4) [.ref 19, .int p] I (sx_run rw m ln) K := by
  refine sx_enter (by decide +kernel) (Nat.le_of_ble_eq_true rfl) (sx_go m23 60 rfl (fun VV CC hV hC => hV _ _ _ _ _ _ _ ?_))
  exact v_watch_19 (d := d) hi hn hn10 htx hnt ht0 hp hq hk n 0 I (by omega) ⟨gb_fr.rf _ _, hb⟩
theorem v_pass65_19 {n : Nat} {r : Int32} (hb : gb 19 s I) (hn : s 0 = nI n) (hn10 : n ≤ 10) (hT : gs_tn s) (hr : r = if gs_cnt s < s 5 then nI 1 else nI 0) (hk : ∀ I', gb_fr 19 I I' → gb 19 (upd (gs_raid s) 2 (gs_raid s 2 + nI 1)) I' → K (some (.int r)) I' (sx_run rw m ln)) :
    sx_V 19 (d + 3) 0 0 K 65 [(0, .ref 19), (1, .int r)] [] I (sx_run rw m ln) := by
  have hr01 : r = 0 ∨ r = 1 := by rw [hr]; exact sx_bool _
  have fin : ∀ I2, gb_fr 19 I I2 → gb 19 (gs_raid s) I2 → K (some (.int r)) (sx_up I2 19 (upd (I2 19) 9 (I2 19 9 + nI 1))) (sx_run rw m ln) := by
    intro I2 h1 h2
    have hl := gs_lo.raid s
    have := hk _ (h1.tr (gb_fr.up I2 19 (upd (I2 19) 9 (I2 19 9 + nI 1)) (by omega) (by omega))) (by rw [← h2.1.2.1]; exact h2.night _ (hl.tn hT))
    exact this
  have toll : ∀ w, w < 3 → gs_raid s = upd s (7 + w) (s (7 + w) + nI 1) → K (some (.int r)) (sx_up (sx_up I 26 (upd (I 26) w (I 26 w + nI 1))) 19 (upd ((sx_up I 26 (upd (I 26) w (I 26 w + nI 1))) 19) 9 ((sx_up I 26 (upd (I 26) w (I 26 w + nI 1))) 19 9 + nI 1))) (sx_run rw m ln) := by
    intro w hw e
    refine fin _ (gb_fr.up I 26 _ (by omega) (by omega)) ?_
    rw [e, ← gb_toll_19 hb hw]
    exact hb.toll hw _ hT
  refine sx_go m19 60 rfl (fun VV CC hV hC => ?_)
  refine ⟨fun (c1 : r = 0) => ⟨hr01, fin I (gb_fr.rf _ _) ?_⟩, fun (c1 : ¬ r = 0) => hC _ _ _ _ _ (c_strength_19 hb hn hn10 ⟨3, ⟨rfl, by omega⟩, fun (c2 : gs_str s < I 25 3) => ⟨2, ⟨rfl, by omega⟩, 2, ⟨rfl, by omega⟩, ⟨hr01, toll 2 (by omega) ?_⟩⟩, fun (c2 : ¬ gs_str s < I 25 3) => ⟨1, ⟨rfl, by omega⟩, 1, ⟨rfl, by omega⟩, ⟨hr01, toll 1 (by omega) ?_⟩⟩⟩)⟩
  · have c3 : ¬ gs_cnt s < s 5 := by
      intro h
      rw [if_pos h] at hr
      rw [hr] at c1; exact absurd c1 (by decide +kernel)
    rw [gs_raid0 c3]; exact hb
  · have c3 : gs_cnt s < s 5 := by
      refine Decidable.byContradiction (fun h => ?_)
      rw [if_neg h] at hr
      rw [hr] at c1; exact c1 rfl
    rw [gb_rule_19 hb (by omega)] at c2
    exact gs_raid1 c3 c2
  · have c3 : gs_cnt s < s 5 := by
      refine Decidable.byContradiction (fun h => ?_)
      rw [if_neg h] at hr
      rw [hr] at c1; exact c1 rfl
    rw [gb_rule_19 hb (by omega)] at c2
    exact gs_raid2 c3 c2
theorem v_pass46_19 {n t0 : Nat} (hb : gb 19 s I) (hn : s 0 = nI n) (hn10 : n ≤ 10) (htx : gb_tx I (rw 19) m ln s) (hnt : s 2 = nI t0) (ht0 : t0 < 2 ^ 31) (hk : ∀ I', gb_fr 19 I I' → gb 19 (upd (gs_raid s) 2 (gs_raid s 2 + nI 1)) I' → K (some (.int (if gs_cnt s < s 5 then nI 1 else nI 0))) I' (sx_run rw m ln)) :
    sx_V 19 (d + 5) 0 0 K 46 [(0, .ref 19)] [] I (sx_run rw m ln) := by
  refine sx_go m19 60 rfl (fun VV CC hV hC => ?_)
  refine hC _ _ _ _ _ (c_counted_19 hb hn hn10 htx hnt ht0 (fun I2 h2 => ⟨2, ⟨rfl, by omega⟩, fun (c1 : I2 25 2 ≤ gs_cnt s) => hV _ _ _ _ _ _ _ ?_, fun (c1 : ¬ I2 25 2 ≤ gs_cnt s) => hV _ _ _ _ _ _ _ ?_⟩))
  · have hb2 := h2.gb hb (by omega)
    rw [gb_rule_19 hb2 (by omega)] at c1
    have e : (if gs_cnt s < s 5 then nI 1 else nI 0) = nI 0 := if_neg (Int32.not_lt.mpr c1)
    rw [e] at hk
    exact v_pass65_19 (d := d + 2) hb2 hn hn10 htx.tn e.symm (fun I3 h3 h4 => hk I3 (h2.fr.tr h3) h4)
  · have hb2 := h2.gb hb (by omega)
    rw [gb_rule_19 hb2 (by omega)] at c1
    have e : (if gs_cnt s < s 5 then nI 1 else nI 0) = nI 1 := if_pos (Int32.not_le.mp c1)
    rw [e] at hk
    exact v_pass65_19 (d := d + 2) hb2 hn hn10 htx.tn e.symm (fun I3 h3 h4 => hk I3 (h2.fr.tr h3) h4)
theorem c_pass_19 {t0 : Nat} (hb : gb 19 s I) (hi : gs_inv s) (htx : gb_tx I (rw 19) m ln s) (hnt : s 2 = nI t0) (ht0 : t0 < 2 ^ 31) (hk : ∀ I', gb_fr 19 I I' → gb 19 (gs_night s) I' → K (some (.int (if gs_rd s = true then nI 1 else nI 0))) I' (sx_run rw m ln)) : sx_C 19 (d + 5) [.ref 19] I (sx_run rw m ln) K := by
  obtain ⟨⟨n, hn, hn10⟩, -⟩ := id hi
  have eN : gs_N s = n := gs_N_eq hn hn10
  have hT := htx.tn
  have l1 : gs_lo s (gs_drawS s) := gs_lo.up s 11 _ (by omega) (by omega)
  have l2 : gs_lo s (gs_blows s) := gs_lo.blows hn hn10
  have e2 : gs_blows s = gs_it (gs_blow1 (gs_rem (gs_dv (gs_draw (s 11))) (nI 100))) n (gs_drawS s) := by unfold gs_blows; rw [eN]; rfl
  have i2 : gs_inv (gs_blows s) := hi.blows
  have l3 : gs_lo s (gs_it (gs_rise1 n) n (gs_blows s)) := l2.tr (gs_lo.risen hn10)
  have i3 : gs_inv (gs_it (gs_rise1 n) n (gs_blows s)) := i2.risen n hn10
  have n3 := l3.1.trans hn
  have eN3 : gs_N (gs_it (gs_rise1 n) n (gs_blows s)) = n := gs_N_eq n3 hn10
  have l5 : gs_lo s (gs_watches (gs_it (gs_rise1 n) n (gs_blows s))) := l3.tr (gs_lo.watches n3 hn10)
  have i5 := i3.watches
  have e4 : gs_step4 s = gs_rain (gs_watches (gs_it (gs_rise1 n) n (gs_blows s))) := by unfold gs_step4; rw [eN]
  have l7 : gs_lo s (gs_step4 s) := gs_lo.step4 hn hn10
  have k3 : gs_ke s (gs_it (gs_rise1 n) n (gs_blows s)) := ((gs_ke.up s 11 _ (by omega)).tr (gs_ke.it (fun k s => gs_ke.blow1 _ k s) _ _)).tr (gs_ke.it (fun k s => gs_ke.rise1 _ k s) _ _)
  have k7 : gs_ke s (gs_step4 s) := gs_ke.step4 s
  obtain ⟨q, hq⟩ : ∃ q, q = gs_drawV (gs_it (gs_rise1 n) n (gs_blows s)) 20 := ⟨_, rfl⟩
  have hq20 : q < 20 := by rw [hq]; exact Nat.mod_lt _ (by omega)
  have fin : ∀ I', gb_fr 19 I I' → gb 19 (gs_step4 s) I' → sx_V 19 (d + 5) 0 0 K 46 [(0, .ref 19)] [] I' (sx_run rw m ln) := by
    intro I' hf hb'
    refine v_pass46_19 (d := d) hb' (l7.1.trans hn) hn10 (htx.lo (hf.hi (by omega)) l7) ((k7 2 (by omega) (by omega)).trans hnt) ht0 (fun I2 h2 h3 => ?_)
    have := hk I2 (hf.tr h2) h3
    have e : (if gs_rd s = true then nI 1 else nI 0) = (if gs_cnt (gs_step4 s) < gs_step4 s 5 then nI 1 else nI 0) := by
      unfold gs_rd
      by_cases h : gs_cnt (gs_step4 s) < gs_step4 s 5
      · rw [if_pos h, if_pos (decide_eq_true h)]
      · rw [if_neg h, if_neg (by rw [decide_eq_false h]; decide)]
    rw [e] at this
    exact this
  refine sx_enter (by decide +kernel) (Nat.le_of_ble_eq_true rfl) (sx_go m19 60 rfl (fun VV CC hV hC => ?_))
  refine hC _ _ _ _ _ (c_draw_19 hb hT (fun I1 f1 b1 => ⟨by decide +kernel, hC _ _ _ _ _ (c_blow_19 b1 (l1.1.trans hn) hn10 (l1.tn hT) (fun I2 f2 b2 => ?_))⟩))
  have b2 : gb 19 (gs_blows s) I2 := by rw [e2]; exact b2
  refine hC _ _ _ _ _ (c_setUp_19 b2 i2 (l2.1.trans hn) hn10 (l2.tn hT) (fun I3 f3 b3 => ?_))
  refine hC _ _ _ _ _ (c_draw_19 b3 (l3.tn hT) (fun I4 f4 b4 => ⟨by decide +kernel, ?_⟩))
  have f04 := ((f1.tr f2).tr f3).tr f4
  have l4 : gs_lo s (gs_drawS (gs_it (gs_rise1 n) n (gs_blows s))) := l3.tr (gs_lo.up _ 11 _ (by omega) (by omega))
  refine hC _ _ _ _ _ (c_watch_19 (q := q) b4 (i3.up (i := 11) (by omega) (by omega) _) (l4.1.trans hn) hn10 (htx.lo (f04.hi (by omega)) l4) (((gs_ke.up _ 11 _ (by omega) : gs_ke _ (gs_drawS (gs_it (gs_rise1 n) n (gs_blows s)))) 2 (by omega) (by omega)).trans ((k3 2 (by omega) (by omega)).trans hnt)) ht0 (by rw [gs_drawV_eq _ (by omega) (by omega), hq]) hq20 (fun I5 f5 b5 => ?_))
  have b5 : gb 19 (gs_watches (gs_it (gs_rise1 n) n (gs_blows s))) I5 := by
    unfold gs_watches
    rw [eN3]
    exact b5
  refine hC _ _ _ _ _ (c_draw_19 b5 (l5.tn hT) (fun I6 f6 b6 => ⟨by decide +kernel, 1, ⟨rfl, by omega⟩, ?_⟩))
  have f06 := (f04.tr f5).tr f6
  rw [gb_rule_19 b6 (by omega)]
  have er : gs_drawS (gs_watches (gs_it (gs_rise1 n) n (gs_blows s))) (3 + 1) = gs_watches (gs_it (gs_rise1 n) n (gs_blows s)) 4 := pk_un (by omega)
  rw [er]
  refine ⟨fun (c1 : gs_watches (gs_it (gs_rise1 n) n (gs_blows s)) 4 ≤ gs_rem (gs_dv (gs_draw (gs_watches (gs_it (gs_rise1 n) n (gs_blows s)) 11))) (nI 100)) => hV _ _ _ _ _ _ _ (fin I6 f06 ?_), fun (c1 : ¬ gs_watches (gs_it (gs_rise1 n) n (gs_blows s)) 4 ≤ gs_rem (gs_dv (gs_draw (gs_watches (gs_it (gs_rise1 n) n (gs_blows s)) 11))) (nI 100)) => ?_⟩
  · rw [e4, gs_rain0 (Int32.not_lt.mpr c1)]; exact b6
  · have l6 : gs_lo s (gs_drawS (gs_watches (gs_it (gs_rise1 n) n (gs_blows s)))) := l5.tr (gs_lo.up _ 11 _ (by omega) (by omega))
    refine hC _ _ _ _ _ (c_wet_19 b6 (l6.1.trans hn) hn10 (l6.tn hT) (fun I7 f7 b7 => hV _ _ _ _ _ _ _ (fin I7 (f06.tr f7) ?_)))
    rw [e4, gs_rain1 (Int32.not_le.mp c1), gs_N_eq (l5.1.trans hn) hn10]
    exact b7
theorem v_watch51_37 {k : Nat} {p x : Int32} (hb : gb 37 s I) (hk10 : k < 10) (h : sx_V 23 (d + 3) 0 0 K 2 [(0, .ref 37), (1, .int p), (2, .int (nI (k + 1)))] [] (sx_up I 41 (upd (I 41) k (gs_wi (s (12 + 5 * k + 3) + x) (nI 99)))) (sx_run rw m ln)) :
    sx_V 23 (d + 3) 0 0 K 51 [(0, .ref 37), (1, .int p), (2, .int (nI k)), (3, .int x)] [] I (sx_run rw m ln) := by
  rw [nI_succ k] at h
  refine sx_go m23 60 rfl (fun VV CC hV hC => ?_)
  refine ⟨k, ⟨rfl, by omega⟩, hC _ _ _ _ _ (c_held ⟨k, ⟨rfl, by omega⟩, hV _ _ _ _ _ _ _ ?_⟩)⟩
  rw [gb_doubt_37 hb hk10]
  exact h
theorem v_watch_37 {n q t0 : Nat} {p : Int32} (hi : gs_inv s) (hn : s 0 = nI n) (hn10 : n ≤ 10) (htx : gb_tx I (rw 37) m ln s) (hnt : s 2 = nI t0) (ht0 : t0 < 2 ^ 31) (hp : p = nI q) (hq : q < 20) (hk : ∀ I', gb_fr 37 I I' → gb 37 (gs_it (gs_watch1 p) n s) I' → K none I' (sx_run rw m ln)) :
    ∀ (r k : Nat) (I' : sx_I), k + r = n → (gb_fr 37 I I' ∧ gb 37 (gs_it (gs_watch1 p) k s) I') → sx_V 23 (d + 4) 0 0 K 2 [(0, .ref 37), (1, .int p), (2, .int (nI k))] [] I' (sx_run rw m ln) := by
  have hlo : ∀ k, k ≤ 10 → gs_lo s (gs_it (gs_watch1 p) k s) := fun k hk => gs_lo.it s k (fun k' s hk' => gs_lo.watch1 p k' s (by omega))
  refine sx_for n (fun I' h => ?_) (fun k I' hkc h ih => ?_)
  · obtain ⟨hf, hb⟩ := h
    refine sx_go m23 60 rfl (fun VV CC hV hC => ?_)
    refine ⟨fun _ => hk I' hf hb, fun (c1 : ¬ I' 37 1 ≤ nI n) => ?_⟩
    exfalso; rw [hb.1.1, (hlo n hn10).1, hn] at c1; exact c1 (Int32.le_refl _)
  · obtain ⟨hf, hb⟩ := h
    have hl := hlo k (by omega)
    have hik : gs_inv (gs_it (gs_watch1 p) k s) := hi.it (fun k s _ hs => hs.watch1 p k) k (by omega)
    have e2 : gs_it (gs_watch1 p) k s 2 = nI t0 := (gs_ke.it (fun k s => gs_ke.watch1 p k s) s k 2 (by omega) (by omega)).trans hnt
    refine sx_go m23 60 rfl (fun VV CC hV hC => ?_)
    refine ⟨fun (c1 : I' 37 1 ≤ nI k) => ?_, fun _ => hC _ _ _ _ _ (c_sight_37 rfl (by omega) hp hq hb hik ⟨fun (c2 : gb_sight (gs_it (gs_watch1 p) k s) k p = 0) => hV _ _ _ _ _ _ _ ?_, fun (c2 : ¬ gb_sight (gs_it (gs_watch1 p) k s) k p = 0) => ?_⟩)⟩
    · exfalso; rw [hb.1.1, hl.1, hn] at c1; exact nI_ge hkc (by omega) c1
    · have c3 : gs_it (gs_watch1 p) k s 3 < gs_off (gs_it (gs_watch1 p) k s (12 + 5 * k + 1)) p := by
        unfold gb_sight at c2
        by_cases h : gs_it (gs_watch1 p) k s 3 < gs_off (gs_it (gs_watch1 p) k s (12 + 5 * k + 1)) p
        · exact h
        · rw [if_neg h] at c2; exact absurd c2 (by decide +kernel)
      have := ih I' ⟨hf, by rw [gs_it, gs_watch1_t c3]; exact hb⟩
      rw [nI_succ] at this
      exact this
    · have c3 : ¬ gs_it (gs_watch1 p) k s 3 < gs_off (gs_it (gs_watch1 p) k s (12 + 5 * k + 1)) p := by
        unfold gb_sight at c2
        intro h
        rw [if_pos h] at c2; exact c2 rfl
      have fin : ∀ (I2 : sx_I) (x : Int32), gb_k I' I2 → x = gs_by (gs_it (gs_watch1 p) k s) k → sx_V 23 (d + 4) 0 0 K 51 [(0, .ref 37), (1, .int p), (2, .int (nI k)), (3, .int x)] [] I2 (sx_run rw m ln) := by
        intro I2 x h2 hx
        have hb2 := h2.gb hb (by omega)
        refine v_watch51_37 (d := d + 1) hb2 (by omega) ?_
        refine ih _ ⟨(hf.tr h2.fr).tr (gb_fr.up I2 41 _ (by omega) (by omega)), ?_⟩
        rw [gs_it, gs_watch1_f c3, hx]
        exact hb2.set (w := 3) (by omega) (by omega) _ (hl.tn htx.tn)
      refine ⟨k, ⟨rfl, by omega⟩, fun (c4 : ¬ I' 42 k = 0) => hC _ _ _ _ _ (c_looksOf_37 rfl (by omega) hb (htx.lo (hf.hi (by omega)) hl) e2 ht0 (fun I2 h2 => ⟨fun (c5 : nI 40 ≤ gs_looks (gs_it (gs_watch1 p) k s) k) => hV _ _ _ _ _ _ _ (fin I2 _ h2 ?_), fun (c5 : ¬ nI 40 ≤ gs_looks (gs_it (gs_watch1 p) k s) k) => hV _ _ _ _ _ _ _ (fin I2 _ h2 ?_)⟩)), fun (c4 : I' 42 k = 0) => hV _ _ _ _ _ _ _ (fin I' _ (gb_k.rf _) ?_)⟩
      · rw [gb_up_37 hb (by omega)] at c4
        unfold gs_by
        rw [if_neg c4, if_neg (Int32.not_lt.mpr c5)]
      · rw [gb_up_37 hb (by omega)] at c4
        unfold gs_by
        rw [if_neg c4, if_pos (Int32.not_le.mp c5)]
      · rw [gb_up_37 hb (by omega)] at c4
        unfold gs_by
        rw [if_pos c4]
theorem c_watch_37 {n q t0 : Nat} {p : Int32} (hb : gb 37 s I) (hi : gs_inv s) (hn : s 0 = nI n) (hn10 : n ≤ 10) (htx : gb_tx I (rw 37) m ln s) (hnt : s 2 = nI t0) (ht0 : t0 < 2 ^ 31) (hp : p = nI q) (hq : q < 20) (hk : ∀ I', gb_fr 37 I I' → gb 37 (gs_it (gs_watch1 p) n s) I' → K none I' (sx_run rw m ln)) : sx_C 23 (d + 4) [.ref 37, .int p] I (sx_run rw m ln) K := by
  refine sx_enter (by decide +kernel) (Nat.le_of_ble_eq_true rfl) (sx_go m23 60 rfl (fun VV CC hV hC => hV _ _ _ _ _ _ _ ?_))
  exact v_watch_37 (d := d) hi hn hn10 htx hnt ht0 hp hq hk n 0 I (by omega) ⟨gb_fr.rf _ _, hb⟩
theorem v_pass65_37 {n : Nat} {r : Int32} (hb : gb 37 s I) (hn : s 0 = nI n) (hn10 : n ≤ 10) (hT : gs_tn s) (hr : r = if gs_cnt s < s 5 then nI 1 else nI 0) (hk : ∀ I', gb_fr 37 I I' → gb 37 (upd (gs_raid s) 2 (gs_raid s 2 + nI 1)) I' → K (some (.int r)) I' (sx_run rw m ln)) :
    sx_V 19 (d + 3) 0 0 K 65 [(0, .ref 37), (1, .int r)] [] I (sx_run rw m ln) := by
  have hr01 : r = 0 ∨ r = 1 := by rw [hr]; exact sx_bool _
  have fin : ∀ I2, gb_fr 37 I I2 → gb 37 (gs_raid s) I2 → K (some (.int r)) (sx_up I2 37 (upd (I2 37) 9 (I2 37 9 + nI 1))) (sx_run rw m ln) := by
    intro I2 h1 h2
    have hl := gs_lo.raid s
    have := hk _ (h1.tr (gb_fr.up I2 37 (upd (I2 37) 9 (I2 37 9 + nI 1)) (by omega) (by omega))) (by rw [← h2.1.2.1]; exact h2.night _ (hl.tn hT))
    exact this
  have toll : ∀ w, w < 3 → gs_raid s = upd s (7 + w) (s (7 + w) + nI 1) → K (some (.int r)) (sx_up (sx_up I 44 (upd (I 44) w (I 44 w + nI 1))) 37 (upd ((sx_up I 44 (upd (I 44) w (I 44 w + nI 1))) 37) 9 ((sx_up I 44 (upd (I 44) w (I 44 w + nI 1))) 37 9 + nI 1))) (sx_run rw m ln) := by
    intro w hw e
    refine fin _ (gb_fr.up I 44 _ (by omega) (by omega)) ?_
    rw [e, ← gb_toll_37 hb hw]
    exact hb.toll hw _ hT
  refine sx_go m19 60 rfl (fun VV CC hV hC => ?_)
  refine ⟨fun (c1 : r = 0) => ⟨hr01, fin I (gb_fr.rf _ _) ?_⟩, fun (c1 : ¬ r = 0) => hC _ _ _ _ _ (c_strength_37 hb hn hn10 ⟨3, ⟨rfl, by omega⟩, fun (c2 : gs_str s < I 43 3) => ⟨2, ⟨rfl, by omega⟩, 2, ⟨rfl, by omega⟩, ⟨hr01, toll 2 (by omega) ?_⟩⟩, fun (c2 : ¬ gs_str s < I 43 3) => ⟨1, ⟨rfl, by omega⟩, 1, ⟨rfl, by omega⟩, ⟨hr01, toll 1 (by omega) ?_⟩⟩⟩)⟩
  · have c3 : ¬ gs_cnt s < s 5 := by
      intro h
      rw [if_pos h] at hr
      rw [hr] at c1; exact absurd c1 (by decide +kernel)
    rw [gs_raid0 c3]; exact hb
  · have c3 : gs_cnt s < s 5 := by
      refine Decidable.byContradiction (fun h => ?_)
      rw [if_neg h] at hr
      rw [hr] at c1; exact c1 rfl
    rw [gb_rule_37 hb (by omega)] at c2
    exact gs_raid1 c3 c2
  · have c3 : gs_cnt s < s 5 := by
      refine Decidable.byContradiction (fun h => ?_)
      rw [if_neg h] at hr
      rw [hr] at c1; exact c1 rfl
    rw [gb_rule_37 hb (by omega)] at c2
    exact gs_raid2 c3 c2
theorem v_pass46_37 {n t0 : Nat} (hb : gb 37 s I) (hn : s 0 = nI n) (hn10 : n ≤ 10) (htx : gb_tx I (rw 37) m ln s) (hnt : s 2 = nI t0) (ht0 : t0 < 2 ^ 31) (hk : ∀ I', gb_fr 37 I I' → gb 37 (upd (gs_raid s) 2 (gs_raid s 2 + nI 1)) I' → K (some (.int (if gs_cnt s < s 5 then nI 1 else nI 0))) I' (sx_run rw m ln)) :
    sx_V 19 (d + 5) 0 0 K 46 [(0, .ref 37)] [] I (sx_run rw m ln) := by
  refine sx_go m19 60 rfl (fun VV CC hV hC => ?_)
  refine hC _ _ _ _ _ (c_counted_37 hb hn hn10 htx hnt ht0 (fun I2 h2 => ⟨2, ⟨rfl, by omega⟩, fun (c1 : I2 43 2 ≤ gs_cnt s) => hV _ _ _ _ _ _ _ ?_, fun (c1 : ¬ I2 43 2 ≤ gs_cnt s) => hV _ _ _ _ _ _ _ ?_⟩))
  · have hb2 := h2.gb hb (by omega)
    rw [gb_rule_37 hb2 (by omega)] at c1
    have e : (if gs_cnt s < s 5 then nI 1 else nI 0) = nI 0 := if_neg (Int32.not_lt.mpr c1)
    rw [e] at hk
    exact v_pass65_37 (d := d + 2) hb2 hn hn10 htx.tn e.symm (fun I3 h3 h4 => hk I3 (h2.fr.tr h3) h4)
  · have hb2 := h2.gb hb (by omega)
    rw [gb_rule_37 hb2 (by omega)] at c1
    have e : (if gs_cnt s < s 5 then nI 1 else nI 0) = nI 1 := if_pos (Int32.not_le.mp c1)
    rw [e] at hk
    exact v_pass65_37 (d := d + 2) hb2 hn hn10 htx.tn e.symm (fun I3 h3 h4 => hk I3 (h2.fr.tr h3) h4)
theorem c_pass_37 {t0 : Nat} (hb : gb 37 s I) (hi : gs_inv s) (htx : gb_tx I (rw 37) m ln s) (hnt : s 2 = nI t0) (ht0 : t0 < 2 ^ 31) (hk : ∀ I', gb_fr 37 I I' → gb 37 (gs_night s) I' → K (some (.int (if gs_rd s = true then nI 1 else nI 0))) I' (sx_run rw m ln)) : sx_C 19 (d + 5) [.ref 37] I (sx_run rw m ln) K := by
  obtain ⟨⟨n, hn, hn10⟩, -⟩ := id hi
  have eN : gs_N s = n := gs_N_eq hn hn10
  have hT := htx.tn
  have l1 : gs_lo s (gs_drawS s) := gs_lo.up s 11 _ (by omega) (by omega)
  have l2 : gs_lo s (gs_blows s) := gs_lo.blows hn hn10
  have e2 : gs_blows s = gs_it (gs_blow1 (gs_rem (gs_dv (gs_draw (s 11))) (nI 100))) n (gs_drawS s) := by unfold gs_blows; rw [eN]; rfl
  have i2 : gs_inv (gs_blows s) := hi.blows
  have l3 : gs_lo s (gs_it (gs_rise1 n) n (gs_blows s)) := l2.tr (gs_lo.risen hn10)
  have i3 : gs_inv (gs_it (gs_rise1 n) n (gs_blows s)) := i2.risen n hn10
  have n3 := l3.1.trans hn
  have eN3 : gs_N (gs_it (gs_rise1 n) n (gs_blows s)) = n := gs_N_eq n3 hn10
  have l5 : gs_lo s (gs_watches (gs_it (gs_rise1 n) n (gs_blows s))) := l3.tr (gs_lo.watches n3 hn10)
  have i5 := i3.watches
  have e4 : gs_step4 s = gs_rain (gs_watches (gs_it (gs_rise1 n) n (gs_blows s))) := by unfold gs_step4; rw [eN]
  have l7 : gs_lo s (gs_step4 s) := gs_lo.step4 hn hn10
  have k3 : gs_ke s (gs_it (gs_rise1 n) n (gs_blows s)) := ((gs_ke.up s 11 _ (by omega)).tr (gs_ke.it (fun k s => gs_ke.blow1 _ k s) _ _)).tr (gs_ke.it (fun k s => gs_ke.rise1 _ k s) _ _)
  have k7 : gs_ke s (gs_step4 s) := gs_ke.step4 s
  obtain ⟨q, hq⟩ : ∃ q, q = gs_drawV (gs_it (gs_rise1 n) n (gs_blows s)) 20 := ⟨_, rfl⟩
  have hq20 : q < 20 := by rw [hq]; exact Nat.mod_lt _ (by omega)
  have fin : ∀ I', gb_fr 37 I I' → gb 37 (gs_step4 s) I' → sx_V 19 (d + 5) 0 0 K 46 [(0, .ref 37)] [] I' (sx_run rw m ln) := by
    intro I' hf hb'
    refine v_pass46_37 (d := d) hb' (l7.1.trans hn) hn10 (htx.lo (hf.hi (by omega)) l7) ((k7 2 (by omega) (by omega)).trans hnt) ht0 (fun I2 h2 h3 => ?_)
    have := hk I2 (hf.tr h2) h3
    have e : (if gs_rd s = true then nI 1 else nI 0) = (if gs_cnt (gs_step4 s) < gs_step4 s 5 then nI 1 else nI 0) := by
      unfold gs_rd
      by_cases h : gs_cnt (gs_step4 s) < gs_step4 s 5
      · rw [if_pos h, if_pos (decide_eq_true h)]
      · rw [if_neg h, if_neg (by rw [decide_eq_false h]; decide)]
    rw [e] at this
    exact this
  refine sx_enter (by decide +kernel) (Nat.le_of_ble_eq_true rfl) (sx_go m19 60 rfl (fun VV CC hV hC => ?_))
  refine hC _ _ _ _ _ (c_draw_37 hb hT (fun I1 f1 b1 => ⟨by decide +kernel, hC _ _ _ _ _ (c_blow_37 b1 (l1.1.trans hn) hn10 (l1.tn hT) (fun I2 f2 b2 => ?_))⟩))
  have b2 : gb 37 (gs_blows s) I2 := by rw [e2]; exact b2
  refine hC _ _ _ _ _ (c_setUp_37 b2 i2 (l2.1.trans hn) hn10 (l2.tn hT) (fun I3 f3 b3 => ?_))
  refine hC _ _ _ _ _ (c_draw_37 b3 (l3.tn hT) (fun I4 f4 b4 => ⟨by decide +kernel, ?_⟩))
  have f04 := ((f1.tr f2).tr f3).tr f4
  have l4 : gs_lo s (gs_drawS (gs_it (gs_rise1 n) n (gs_blows s))) := l3.tr (gs_lo.up _ 11 _ (by omega) (by omega))
  refine hC _ _ _ _ _ (c_watch_37 (q := q) b4 (i3.up (i := 11) (by omega) (by omega) _) (l4.1.trans hn) hn10 (htx.lo (f04.hi (by omega)) l4) (((gs_ke.up _ 11 _ (by omega) : gs_ke _ (gs_drawS (gs_it (gs_rise1 n) n (gs_blows s)))) 2 (by omega) (by omega)).trans ((k3 2 (by omega) (by omega)).trans hnt)) ht0 (by rw [gs_drawV_eq _ (by omega) (by omega), hq]) hq20 (fun I5 f5 b5 => ?_))
  have b5 : gb 37 (gs_watches (gs_it (gs_rise1 n) n (gs_blows s))) I5 := by
    unfold gs_watches
    rw [eN3]
    exact b5
  refine hC _ _ _ _ _ (c_draw_37 b5 (l5.tn hT) (fun I6 f6 b6 => ⟨by decide +kernel, 1, ⟨rfl, by omega⟩, ?_⟩))
  have f06 := (f04.tr f5).tr f6
  rw [gb_rule_37 b6 (by omega)]
  have er : gs_drawS (gs_watches (gs_it (gs_rise1 n) n (gs_blows s))) (3 + 1) = gs_watches (gs_it (gs_rise1 n) n (gs_blows s)) 4 := pk_un (by omega)
  rw [er]
  refine ⟨fun (c1 : gs_watches (gs_it (gs_rise1 n) n (gs_blows s)) 4 ≤ gs_rem (gs_dv (gs_draw (gs_watches (gs_it (gs_rise1 n) n (gs_blows s)) 11))) (nI 100)) => hV _ _ _ _ _ _ _ (fin I6 f06 ?_), fun (c1 : ¬ gs_watches (gs_it (gs_rise1 n) n (gs_blows s)) 4 ≤ gs_rem (gs_dv (gs_draw (gs_watches (gs_it (gs_rise1 n) n (gs_blows s)) 11))) (nI 100)) => ?_⟩
  · rw [e4, gs_rain0 (Int32.not_lt.mpr c1)]; exact b6
  · have l6 : gs_lo s (gs_drawS (gs_watches (gs_it (gs_rise1 n) n (gs_blows s)))) := l5.tr (gs_lo.up _ 11 _ (by omega) (by omega))
    refine hC _ _ _ _ _ (c_wet_37 b6 (l6.1.trans hn) hn10 (l6.tn hT) (fun I7 f7 b7 => hV _ _ _ _ _ _ _ (fin I7 (f06.tr f7) ?_)))
    rw [e4, gs_rain1 (Int32.not_le.mp c1), gs_N_eq (l5.1.trans hn) hn10]
    exact b7
end
