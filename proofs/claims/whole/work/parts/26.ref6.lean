/-! ===== the reference: a night goes by ===== -/
theorem sx_for (n : Nat) {P W : Nat → sx_I → Prop} (last : ∀ I, P n I → W n I) (step : ∀ k I, k < n → P k I → (∀ I2, P (k + 1) I2 → W (k + 1) I2) → W k I) : ∀ (r k : Nat) (I : sx_I), k + r = n → P k I → W k I
  | 0, k, I, e, h => by
    have : k = n := by omega
    subst this
    exact last I h
  | r + 1, k, I, e, h => step k I (by omega) h (fun I2 h2 => sx_for n last step r (k + 1) I2 (by omega) h2)
theorem gs_sc.at {I I' : sx_I} {s : Nat → Int32} (h : gs_sc (sx_up I 79 s) I') : I' 79 = s := (h 79 (by omega) (by omega)).trans (sx_up_same _ _ _)
theorem gs_sc.st {I I' : sx_I} {s : Nat → Int32} (h : gs_sc (sx_up I 79 s) I') (f : Nat → Int32) : gs_sc (sx_up I 79 f) (sx_up I' 79 f) := by
  have := h.up 79 f
  rw [sx_upup] at this
  exact this
theorem gs_N_lo {s s' : Nat → Int32} (h : gs_lo s s') : gs_N s' = gs_N s := by unfold gs_N; rw [h.1]
theorem gs_N_eq {s : Nat → Int32} {n : Nat} (h : s 0 = nI n) (hn : n ≤ 10) : gs_N s = n := by unfold gs_N; rw [h, nI_clamp (by omega)]
theorem gs_lo.blows {s : Nat → Int32} {n : Nat} (h : s 0 = nI n) (hn : n ≤ 10) : gs_lo s (gs_blows s) := by
  unfold gs_blows
  rw [gs_N_eq h hn]
  exact (gs_lo.up s 11 _ (by omega) (by omega)).tr (gs_lo.it _ n (fun k s hk => gs_lo.blow1 _ k s (by omega)))
theorem gs_lo.watches {s : Nat → Int32} {n : Nat} (h : s 0 = nI n) (hn : n ≤ 10) : gs_lo s (gs_watches s) := by
  unfold gs_watches
  rw [gs_N_eq h hn]
  exact (gs_lo.up s 11 _ (by omega) (by omega)).tr (gs_lo.it _ n (fun k s hk => gs_lo.watch1 _ k s (by omega)))
theorem gs_lo.rain {s : Nat → Int32} {n : Nat} (h : s 0 = nI n) (hn : n ≤ 10) : gs_lo s (gs_rain s) := by
  unfold gs_rain
  rw [gs_N_eq h hn]
  split
  · exact (gs_lo.up s 11 _ (by omega) (by omega)).tr (gs_lo.it _ n (fun k s hk => gs_lo.wet1 k s (by omega)))
  · exact gs_lo.up s 11 _ (by omega) (by omega)
theorem gs_lo.raid (s : Nat → Int32) : gs_lo s (gs_raid s) := by
  unfold gs_raid
  split
  · split
    · exact gs_lo.up s 9 _ (by omega) (by omega)
    · exact gs_lo.up s 8 _ (by omega) (by omega)
  · exact gs_lo.rf s
theorem gs_lo.risen {s : Nat → Int32} {n : Nat} (hn : n ≤ 10) : gs_lo s (gs_it (gs_rise1 n) n s) := gs_lo.it s n (fun k s _ => gs_lo.rise1 n k s hn)
theorem gs_lo.step4 {s : Nat → Int32} {n : Nat} (h : s 0 = nI n) (hn : n ≤ 10) : gs_lo s (gs_step4 s) := by
  unfold gs_step4
  rw [gs_N_eq h hn]
  have a := gs_lo.blows h hn
  have b := a.tr (gs_lo.risen (s := gs_blows s) hn)
  have c := b.tr (gs_lo.watches (b.1.trans h) hn)
  exact c.tr (gs_lo.rain (c.1.trans h) hn)
theorem gs_lo.night {s : Nat → Int32} {n : Nat} (h : s 0 = nI n) (hn : n ≤ 10) : gs_lo s (gs_night s) :=
  ((gs_lo.step4 h hn).tr (gs_lo.raid _)).tr (gs_lo.up _ 2 _ (by omega) (by omega))
theorem gs_rain0 {s : Nat → Int32} (h : ¬ gs_rem (gs_dv (gs_draw (s 11))) (nI 100) < s 4) : gs_rain s = upd s 11 (gs_draw (s 11)) := if_neg h
theorem gs_rain1 {s : Nat → Int32} (h : gs_rem (gs_dv (gs_draw (s 11))) (nI 100) < s 4) : gs_rain s = gs_it gs_wet1 (gs_N s) (upd s 11 (gs_draw (s 11))) := if_pos h
theorem gs_raid0 {s : Nat → Int32} (h : ¬ gs_cnt s < s 5) : gs_raid s = s := if_neg h
theorem gs_raid1 {s : Nat → Int32} (h : gs_cnt s < s 5) (h2 : gs_str s < s 6) : gs_raid s = upd s 9 (s 9 + nI 1) := (if_pos h).trans (if_pos h2)
theorem gs_raid2 {s : Nat → Int32} (h : gs_cnt s < s 5) (h2 : ¬ gs_str s < s 6) : gs_raid s = upd s 8 (s 8 + nI 1) := (if_pos h).trans (if_neg h2)
theorem gs_rise1_t {n k : Nat} {s : Nat → Int32} (h : ¬ gs_lives (s (12 + 5 * k + 0)) = 0 ∧ s (12 + 5 * k + 4) = nI 1) : gs_rise1 n k s = gs_rises s n k := if_pos h
theorem gs_rise1_f {n k : Nat} {s : Nat → Int32} (h : ¬ (¬ gs_lives (s (12 + 5 * k + 0)) = 0 ∧ s (12 + 5 * k + 4) = nI 1)) : gs_rise1 n k s = s := if_neg h
section
variable {d m : Nat} {I : sx_I} {rw : Nat → Nat → Option Nat} {ln : Nat → Nat} {K : sx_K}
theorem v_goesT {n : Nat} {s : Nat → Int32} (hn : s 0 = nI n) (hn10 : n ≤ 10) (htx : gs_tx s) (hk : ∀ I', gs_sc (sx_up I 79 (upd (gs_raid s) 2 (gs_raid s 2 + nI 1))) I' → K none I' (sx_run rw m ln)) (I' : sx_I) (hsc : gs_sc (sx_up I 79 s) I') : sx_V 149 (d + 7) 0 0 K 119 [(0, .ref 78)] [] I' (sx_run rw m ln) := by
  refine sx_go m149 60 rfl (fun VV CC hV hC => ?_)
  have e79 := hsc.at
  refine hC _ _ _ _ _ (c_counted8 (by rw [e79]; exact hn) hn10 (by rw [e79]; exact htx) (fun I2 h2 => ?_))
  have e2 : I2 79 = s := (h2 79 (by omega) (by omega)).trans e79
  have s2 := hsc.tr h2
  refine ⟨5, ⟨rfl, by omega⟩, fun c1 => ⟨2, ⟨rfl, by omega⟩, 2, ⟨rfl, by omega⟩, hk _ ?_⟩, fun c1 => ?_⟩
  · rw [e79, e2] at c1
    rw [gs_raid0 (Int32.not_lt.mpr c1), e2]
    exact s2.st _
  · rw [e79, e2] at c1
    refine hC _ _ _ _ _ (c_strength8 (by rw [e2]; exact hn) hn10 ?_)
    refine ⟨6, ⟨rfl, by omega⟩, fun c2 => ?_, fun c2 => ?_⟩
    · rw [e2] at c2
      refine ⟨9, ⟨rfl, by omega⟩, 9, ⟨rfl, by omega⟩, 2, ⟨rfl, by omega⟩, 2, ⟨rfl, by omega⟩, hk _ ?_⟩
      rw [gs_raid1 (Int32.not_le.mp c1) c2, e2, sx_upup, sx_up_same]
      exact s2.st _
    · rw [e2] at c2
      refine ⟨8, ⟨rfl, by omega⟩, 8, ⟨rfl, by omega⟩, 2, ⟨rfl, by omega⟩, 2, ⟨rfl, by omega⟩, hk _ ?_⟩
      rw [gs_raid2 (Int32.not_le.mp c1) c2, e2, sx_upup, sx_up_same]
      exact s2.st _
theorem v_goes2 {n : Nat} {s : Nat → Int32} (hn : s 0 = nI n) (hn10 : n ≤ 10) (hT : ∀ I', gs_sc (sx_up I 79 (gs_it gs_wet1 n s)) I' → sx_V 149 (d + 7) 0 0 K 119 [(0, .ref 78)] [] I' (sx_run rw m ln)) :
    ∀ (r k : Nat) (I' : sx_I), k + r = n → gs_sc (sx_up I 79 (gs_it gs_wet1 k s)) I' → sx_V 149 (d + 7) 0 0 K 67 [(0, .ref 78), (1, .int (nI k))] [] I' (sx_run rw m ln) := by
  have hlo : ∀ k, k ≤ n → gs_lo s (gs_it gs_wet1 k s) := fun k hk => gs_lo.it s k (fun i s' hi => gs_lo.wet1 i s' (by omega))
  refine sx_for n (fun I' hsc => ?_) (fun k I' hk hsc ih => ?_)
  · refine sx_go m149 60 rfl (fun VV CC hV hC => ?_)
    refine ⟨0, ⟨rfl, by omega⟩, fun c1 => hV _ _ _ _ _ _ _ (hT I' hsc), fun c1 => ?_⟩
    exfalso; rw [hsc.at, (hlo n (Nat.le_refl _)).1, hn] at c1; exact c1 (nI_le (Nat.le_refl _) (by omega))
  · have e79 := hsc.at
    have fin : ∀ v, v = (if gs_lives (gs_it gs_wet1 k s (12 + 5 * k + 0)) = 0 then gs_wi (gs_it gs_wet1 k s (12 + 5 * k + 2) + nI 3) (nI 99) else gs_it gs_wet1 k s (12 + 5 * k + 2)) → sx_V 149 (d + 7) 0 0 K 67 [(0, .ref 78), (1, .int (nI k + nI 1))] [] (sx_up I' 79 (gs_set (I' 79) k 2 v)) (sx_run rw m ln) := by
      intro v hv
      have := ih (sx_up I' 79 (gs_set (I' 79) k 2 v)) (by rw [e79, hv]; exact hsc.st _)
      rw [nI_succ] at this
      exact this
    refine sx_go m149 100 rfl (fun VV CC hV hC => ?_)
    refine ⟨0, ⟨rfl, by omega⟩, fun c1 => ?_, fun c1 => ?_⟩
    · exfalso; rw [e79, (hlo k (by omega)).1, hn] at c1; exact nI_ge (show k < n by omega) (by omega) c1
    · refine hC _ _ _ _ _ (c_lives8 rfl (by omega) ⟨fun (c2 : _ = _) => ?_, fun (c2 : ¬ _ = _) => ?_⟩)
      · rw [e79] at c2
        refine hC _ _ _ _ _ (c_of rfl rfl (by omega) (hC _ _ _ _ _ (c_within (hC _ _ _ _ _ (c_sets rfl rfl (by omega) (hV _ _ _ _ _ _ _ (fin _ ?_)))))))
        rw [e79, if_pos c2]
      · rw [e79] at c2
        refine hC _ _ _ _ _ (c_of rfl rfl (by omega) (hC _ _ _ _ _ (c_sets rfl rfl (by omega) (hV _ _ _ _ _ _ _ (fin _ ?_)))))
        rw [e79, if_neg c2]
theorem v_goes1 {n : Nat} {s : Nat → Int32} (hn : s 0 = nI n) (hn10 : n ≤ 10) (htx : gs_tx s) (hk : ∀ I', gs_sc (sx_up I 79 (let s4 := gs_rain (gs_watches (gs_it (gs_rise1 n) n s)); upd (gs_raid s4) 2 (gs_raid s4 2 + nI 1))) I' → K none I' (sx_run rw m ln)) :
    ∀ (r k : Nat) (I' : sx_I), k + r = n → gs_sc (sx_up I 79 (gs_it (gs_rise1 n) k s)) I' → sx_V 149 (d + 7) 0 0 K 6 [(0, .ref 78), (1, .int (nI k))] [] I' (sx_run rw m ln) := by
  have hlo : ∀ k, k ≤ n → gs_lo s (gs_it (gs_rise1 n) k s) := fun k hk => gs_lo.it s k (fun i s' hi => gs_lo.rise1 n i s' (by omega))
  refine sx_for n (fun I' hsc => ?_) (fun k I' hk hsc ih => ?_)
  · have e79 := hsc.at
    have h1 := hlo n (Nat.le_refl _)
    refine sx_go m149 60 rfl (fun VV CC hV hC => ?_)
    refine ⟨0, ⟨rfl, by omega⟩, fun c1 => ?_, fun c1 => ?_⟩
    · refine hC _ _ _ _ _ (c_watches (by rw [e79]; exact h1.1.trans hn) hn10 (by rw [e79]; exact gs_tx_lo h1 htx) (fun I2 h2 => ?_))
      rw [e79] at h2
      have e2 := h2.at
      have s2 : gs_sc (sx_up I 79 (gs_watches (gs_it (gs_rise1 n) n s))) I2 := (hsc.st _).tr h2
      have h3 := h1.tr (gs_lo.watches (h1.1.trans hn) hn10)
      have hT : ∀ I', gs_sc (sx_up I 79 (gs_rain (gs_watches (gs_it (gs_rise1 n) n s)))) I' → sx_V 149 (d + 7) 0 0 K 119 [(0, .ref 78)] [] I' (sx_run rw m ln) := by
        have h4 := h3.tr (gs_lo.rain (h3.1.trans hn) hn10)
        exact fun I' h => v_goesT (h4.1.trans hn) hn10 (gs_tx_lo h4 htx) hk I' h
      refine hC _ _ _ _ _ (c_drawn ⟨by decide +kernel, 4, ⟨rfl, by omega⟩, fun c2 => hV _ _ _ _ _ _ _ (hT _ ?_), fun c2 => hV _ _ _ _ _ _ _ ?_⟩)
      · rw [e2, sx_up_same, pk_un (by omega)] at c2
        rw [gs_rain0 (Int32.not_lt.mpr c2), e2]
        exact s2.st _
      · rw [e2, sx_up_same, pk_un (by omega)] at c2
        refine v_goes2 (I := I) (n := n) (s := upd (gs_watches (gs_it (gs_rise1 n) n s)) 11 (gs_draw (gs_watches (gs_it (gs_rise1 n) n s) 11))) ((pk_un (by omega)).trans (h3.1.trans hn)) hn10 (fun I' h => hT I' ?_) n 0 _ (by omega) ?_
        · rw [gs_rain1 (Int32.not_le.mp c2), gs_N_eq (h3.1.trans hn) hn10]
          exact h
        · rw [e2]
          exact s2.st _
    · exfalso; rw [e79, h1.1, hn] at c1; exact c1 (nI_le (Nat.le_refl _) (by omega))
  · have e79 := hsc.at
    have h1 := hlo k (by omega)
    have nxt : ∀ s2, s2 = gs_rise1 n k (gs_it (gs_rise1 n) k s) → sx_V 149 (d + 7) 0 0 K 6 [(0, .ref 78), (1, .int (nI k + nI 1))] [] (sx_up I' 79 s2) (sx_run rw m ln) := by
      intro s2 h2
      have := ih (sx_up I' 79 s2) (by rw [h2]; exact hsc.st _)
      rw [nI_succ] at this
      exact this
    have nx0 : gs_it (gs_rise1 n) k s = gs_rise1 n k (gs_it (gs_rise1 n) k s) → sx_V 149 (d + 7) 0 0 K 6 [(0, .ref 78), (1, .int (nI k + nI 1))] [] I' (sx_run rw m ln) := by
      intro h2
      have := nxt _ h2
      rw [← e79, sx_upself] at this
      exact this
    refine sx_go m149 100 rfl (fun VV CC hV hC => ?_)
    refine ⟨0, ⟨rfl, by omega⟩, fun c1 => ?_, fun c1 => ?_⟩
    · exfalso; rw [e79, h1.1, hn] at c1; exact nI_ge (show k < n by omega) (by omega) c1
    · refine hC _ _ _ _ _ (c_lives8 rfl (by omega) ⟨fun (c2 : _ = _) => hV _ _ _ _ _ _ _ (nx0 ?_), fun (c2 : ¬ _ = _) => hC _ _ _ _ _ (c_of rfl rfl (by omega) ⟨fun (c3 : ¬ _ = _) => hV _ _ _ _ _ _ _ (nx0 ?_), fun (c3 : _ = _) => ?_⟩)⟩)
      · rw [e79] at c2
        rw [gs_rise1_f (fun h => h.1 c2)]
      · rw [e79] at c3
        rw [gs_rise1_f (fun h => c3 h.2)]
      · rw [e79] at c2 c3
        refine hC _ _ _ _ _ (c_rises rfl (by rw [e79]; exact h1.1.trans hn) hn10 (by omega) (hV _ _ _ _ _ _ _ (nxt _ ?_)))
        rw [e79, gs_rise1_t ⟨c2, c3⟩]
theorem c_goesOn {n : Nat} (hn : I 79 0 = nI n) (hn10 : n ≤ 10) (htx : gs_tx (I 79)) (hk : ∀ I', gs_sc (sx_up I 79 (gs_night (I 79))) I' → K none I' (sx_run rw m ln)) : sx_C 149 (d + 7) [.ref 78] I (sx_run rw m ln) K := by
  refine sx_enter (by decide +kernel) (Nat.le_of_ble_eq_true rfl) (sx_go m149 60 rfl (fun VV CC hV hC => ?_))
  refine hC _ _ _ _ _ (c_blows hn hn10 (hV _ _ _ _ _ _ _ ?_))
  have h1 := gs_lo.blows hn hn10
  refine v_goes1 (d := d) (I := I) (h1.1.trans hn) hn10 (gs_tx_lo h1 htx) (fun I' h => hk I' ?_) n 0 _ (by omega) (gs_sc.rf _)
  unfold gs_night gs_step4
  rw [gs_N_eq hn hn10]
  exact h
end
