/-! ===== the reference: a night ===== -/
def gs_it (body : Nat → (Nat → Int32) → Nat → Int32) : Nat → (Nat → Int32) → Nat → Int32
  | 0, s => s
  | k + 1, s => body k (gs_it body k s)
def gs_rem (x y : Int32) : Int32 := x - x / y * y
/-- as many guards, the same texts -/
def gs_lo (s s' : Nat → Int32) : Prop := s' 0 = s 0 ∧ s' 1 = s 1 ∧ ∀ i, 62 ≤ i → s' i = s i
theorem gs_lo.rf (s : Nat → Int32) : gs_lo s s := ⟨rfl, rfl, fun _ _ => rfl⟩
theorem gs_lo.tr {a b c : Nat → Int32} (h : gs_lo a b) (h2 : gs_lo b c) : gs_lo a c := ⟨h2.1.trans h.1, h2.2.1.trans h.2.1, fun i hi => (h2.2.2 i hi).trans (h.2.2 i hi)⟩
theorem gs_lo.up (s : Nat → Int32) (k : Nat) (v : Int32) (h2 : 2 ≤ k) (h62 : k < 62) : gs_lo s (upd s k v) := ⟨pk_un (by omega), pk_un (by omega), fun i hi => pk_un (by omega)⟩
theorem gs_lo.set (s : Nat → Int32) (k w : Nat) (v : Int32) (h : k < 10) (hw : w < 5) : gs_lo s (gs_set s k w v) := gs_lo.up s _ v (by omega) (by omega)
theorem gs_lo.it {body : Nat → (Nat → Int32) → Nat → Int32} (s : Nat → Int32) : ∀ n, (∀ k s, k < n → gs_lo s (body k s)) → gs_lo s (gs_it body n s)
  | 0, _ => gs_lo.rf s
  | n + 1, h => (gs_lo.it s n (fun k s hk => h k s (by omega))).tr (h n _ (by omega))
theorem gs_ht_lo {s s' : Nat → Int32} (h : gs_lo s s') (t : Nat) : ∀ k, gs_ht s' t k = gs_ht s t k
  | 0 => rfl
  | k + 1 => by
    unfold gs_ht
    rw [gs_ht_lo h t k, h.2.2 _ (by omega), h.2.2 _ (by omega)]
theorem gs_tok_lo {s s' : Nat → Int32} {t M : Nat} (h : gs_lo s s') (ht : gs_tok s t M) : gs_tok s' t M := by
  obtain ⟨h1, h2, h3, h4, h5⟩ := ht
  refine ⟨h1, by rw [h.2.2 _ (by omega)]; exact h2, h3, by rw [gs_ht_lo h]; exact h4, fun k hk => ?_⟩
  rw [h.2.2 _ (by omega), h.2.2 _ (by omega), gs_ht_lo h, h.2.2 _ (by omega)]
  exact h5 k hk
theorem gs_tx_lo {s s' : Nat → Int32} (h : gs_lo s s') (ht : gs_tx s) : gs_tx s' := by
  obtain ⟨T, h1, h2, h3⟩ := ht
  refine ⟨T, h.2.1.trans h1, h2, fun t htT => ?_⟩
  obtain ⟨M, hM⟩ := h3 t htT
  exact ⟨M, gs_tok_lo h hM⟩
def gs_N (s : Nat → Int32) : Nat := (s 0).toNatClampNeg
def gs_blow1 (wind : Int32) (k : Nat) (s : Nat → Int32) : Nat → Int32 :=
  if s (12 + 5 * k + 4) = nI 1 ∧ wind < gs_falls (s (12 + 5 * k + 0)) (s (12 + 5 * k + 2)) then upd (gs_set s k 4 (nI 0)) 7 (gs_set s k 4 (nI 0) 7 + nI 1) else s
def gs_blows (s : Nat → Int32) : Nat → Int32 := gs_it (gs_blow1 (gs_rem (gs_dv (gs_draw (s 11))) (nI 100))) (gs_N s) (upd s 11 (gs_draw (s 11)))
def gs_rises (s : Nat → Int32) (n b : Nat) : Nat → Int32 :=
  if gs_fst (fun k => decide (¬ s (12 + 5 * k + 4) = nI 1 ∧ gs_off (s (12 + 5 * k + 1)) (s (12 + 5 * b + 1)) ≤ nI 2)) n < n then gs_set s (gs_fst (fun k => decide (¬ s (12 + 5 * k + 4) = nI 1 ∧ gs_off (s (12 + 5 * k + 1)) (s (12 + 5 * b + 1)) ≤ nI 2)) n) 4 (nI 1) else s
def gs_rise1 (n k : Nat) (s : Nat → Int32) : Nat → Int32 := if ¬ gs_lives (s (12 + 5 * k + 0)) = 0 ∧ s (12 + 5 * k + 4) = nI 1 then gs_rises s n k else s
def gs_by (s : Nat → Int32) (k : Nat) : Int32 := if s (12 + 5 * k + 4) = 0 then nI 20 else if gs_looks s k < nI 40 then nI 9 else -3
def gs_watch1 (p : Int32) (k : Nat) (s : Nat → Int32) : Nat → Int32 := if s 3 < gs_off (s (12 + 5 * k + 1)) p then s else gs_set s k 3 (gs_wi (s (12 + 5 * k + 3) + gs_by s k) (nI 99))
def gs_watches (s : Nat → Int32) : Nat → Int32 := gs_it (gs_watch1 (gs_rem (gs_dv (gs_draw (s 11))) (nI 20))) (gs_N s) (upd s 11 (gs_draw (s 11)))
def gs_wet1 (k : Nat) (s : Nat → Int32) : Nat → Int32 := gs_set s k 2 (if gs_lives (s (12 + 5 * k + 0)) = 0 then gs_wi (s (12 + 5 * k + 2) + nI 3) (nI 99) else s (12 + 5 * k + 2))
def gs_rain (s : Nat → Int32) : Nat → Int32 := if gs_rem (gs_dv (gs_draw (s 11))) (nI 100) < s 4 then gs_it gs_wet1 (gs_N s) (upd s 11 (gs_draw (s 11))) else upd s 11 (gs_draw (s 11))
def gs_raid (s : Nat → Int32) : Nat → Int32 := if gs_cnt s < s 5 then (if gs_str s < s 6 then upd s 9 (s 9 + nI 1) else upd s 8 (s 8 + nI 1)) else s
def gs_step4 (s : Nat → Int32) : Nat → Int32 := gs_rain (gs_watches (gs_it (gs_rise1 (gs_N s)) (gs_N s) (gs_blows s)))
def gs_night (s : Nat → Int32) : Nat → Int32 := upd (gs_raid (gs_step4 s)) 2 (gs_raid (gs_step4 s) 2 + nI 1)
theorem gs_blow1_t {w : Int32} {k : Nat} {s : Nat → Int32} (h : s (12 + 5 * k + 4) = nI 1 ∧ w < gs_falls (s (12 + 5 * k + 0)) (s (12 + 5 * k + 2))) : gs_blow1 w k s = upd (gs_set s k 4 (nI 0)) 7 (gs_set s k 4 (nI 0) 7 + nI 1) := if_pos h
theorem gs_watch1_t {p : Int32} {k : Nat} {s : Nat → Int32} (h : s 3 < gs_off (s (12 + 5 * k + 1)) p) : gs_watch1 p k s = s := if_pos h
theorem gs_watch1_f {p : Int32} {k : Nat} {s : Nat → Int32} (h : ¬ s 3 < gs_off (s (12 + 5 * k + 1)) p) : gs_watch1 p k s = gs_set s k 3 (gs_wi (s (12 + 5 * k + 3) + gs_by s k) (nI 99)) := if_neg h
theorem gs_lo.blow1 (w : Int32) (k : Nat) (s : Nat → Int32) (h : k < 10) : gs_lo s (gs_blow1 w k s) := by
  unfold gs_blow1
  split
  · exact (gs_lo.set s k 4 _ h (by omega)).tr (gs_lo.up _ 7 _ (by omega) (by omega))
  · exact gs_lo.rf s
theorem gs_lo.rises (s : Nat → Int32) (n b : Nat) (h : n ≤ 10) : gs_lo s (gs_rises s n b) := by
  unfold gs_rises
  split
  · exact gs_lo.set s _ 4 _ (by omega) (by omega)
  · exact gs_lo.rf s
theorem gs_lo.rise1 (n k : Nat) (s : Nat → Int32) (h : n ≤ 10) : gs_lo s (gs_rise1 n k s) := by
  unfold gs_rise1
  split
  · exact gs_lo.rises s n k h
  · exact gs_lo.rf s
theorem gs_lo.watch1 (p : Int32) (k : Nat) (s : Nat → Int32) (h : k < 10) : gs_lo s (gs_watch1 p k s) := by
  unfold gs_watch1
  split
  · exact gs_lo.rf s
  · exact gs_lo.set s k 3 _ h (by omega)
theorem gs_lo.wet1 (k : Nat) (s : Nat → Int32) (h : k < 10) : gs_lo s (gs_wet1 k s) := gs_lo.set s k 2 _ h (by omega)
section
variable {d m : Nat} {I : sx_I} {rw : Nat → Nat → Option Nat} {ln : Nat → Nat} {K : sx_K}
theorem v_blows {w : Int32} {n : Nat} {s : Nat → Int32} (hn : s 0 = nI n) (hn10 : n ≤ 10) (hk : K none (sx_up I 79 (gs_it (gs_blow1 w) n s)) (sx_run rw m ln)) :
    ∀ (r k : Nat), k + r = n → sx_V 146 (d + 3) 0 0 K 10 [(0, .ref 78), (1, .int w), (2, .int (nI k))] [] (sx_up I 79 (gs_it (gs_blow1 w) k s)) (sx_run rw m ln) := by
  have hlo : ∀ k, k ≤ n → gs_it (gs_blow1 w) k s 0 = nI n := fun k hk => ((gs_lo.it s k (fun i s' hi => gs_lo.blow1 w i s' (by omega))).1).trans hn
  intro r
  induction r with
  | zero =>
    intro k hk2
    have : k = n := by omega
    subst this
    refine sx_go m146 60 rfl (fun VV CC hV hC => ?_)
    refine ⟨0, ⟨rfl, by omega⟩, fun c1 => hk, fun c1 => ?_⟩
    exfalso; rw [sx_up_same, hlo k (Nat.le_refl _)] at c1; exact c1 (nI_le (Nat.le_refl _) (by omega))
  | succ r ih =>
    intro k hk2
    have nxt : ∀ s2, s2 = gs_blow1 w k (gs_it (gs_blow1 w) k s) → sx_V 146 (d + 3) 0 0 K 10 [(0, .ref 78), (1, .int w), (2, .int (nI k + nI 1))] [] (sx_up I 79 s2) (sx_run rw m ln) := by
      intro s2 h2
      have := ih (k + 1) (by omega)
      rw [nI_succ] at this
      rw [h2]
      exact this
    refine sx_go m146 60 rfl (fun VV CC hV hC => ?_)
    refine ⟨0, ⟨rfl, by omega⟩, fun c1 => ?_, fun c1 => ?_⟩
    · exfalso; rw [sx_up_same, hlo k (by omega)] at c1; exact nI_ge (show k < n by omega) (by omega) c1
    · refine hC _ _ _ _ _ (c_of rfl rfl (by omega) ⟨fun (c2 : ¬ _ = _) => hV _ _ _ _ _ _ _ (nxt _ ?_), fun (c2 : _ = _) => hC _ _ _ _ _ (c_falls8 rfl (by omega) ⟨fun c3 => hV _ _ _ _ _ _ _ (nxt _ ?_), fun c3 => hC _ _ _ _ _ (c_sets rfl rfl (by omega) ⟨7, ⟨rfl, by omega⟩, 7, ⟨rfl, by omega⟩, hV _ _ _ _ _ _ _ ?_⟩)⟩)⟩)
      · rw [sx_up_same] at c2
        unfold gs_blow1; rw [if_neg (fun h => c2 h.1)]
      · rw [sx_up_same] at c3
        unfold gs_blow1; rw [if_neg (fun h => absurd h.2 (Int32.not_lt.mpr c3))]
      · rw [sx_up_same] at c2 c3
        simp only [sx_up_same, sx_upup]
        refine nxt _ ?_
        rw [gs_blow1_t ⟨c2, Int32.not_le.mp c3⟩]
theorem c_blows {n : Nat} (hn : I 79 0 = nI n) (hn10 : n ≤ 10) (hk : K none (sx_up I 79 (gs_blows (I 79))) (sx_run rw m ln)) : sx_C 146 (d + 3) [.ref 78] I (sx_run rw m ln) K := by
  refine sx_enter (by decide +kernel) (Nat.le_of_ble_eq_true rfl) (sx_go m146 60 rfl (fun VV CC hV hC => ?_))
  refine hC _ _ _ _ _ (c_drawn ⟨by decide +kernel, hV _ _ _ _ _ _ _ ?_⟩)
  unfold gs_blows gs_N at hk
  rw [hn, nI_clamp (by omega)] at hk
  exact v_blows (d := d) (by rw [pk_un (by omega)]; exact hn) hn10 hk n 0 (by omega)
theorem v_rises {n b : Nat} (hn : I 79 0 = nI n) (hn10 : n ≤ 10) (hb : b < 10) (hk : K none (sx_up I 79 (gs_rises (I 79) n b)) (sx_run rw m ln)) :
    ∀ (r k : Nat), k + r = n → (∀ i, i < k → ¬ (¬ I 79 (12 + 5 * i + 4) = nI 1 ∧ gs_off (I 79 (12 + 5 * i + 1)) (I 79 (12 + 5 * b + 1)) ≤ nI 2)) → sx_V 147 (d + 3) 0 0 K 2 [(0, .ref 78), (1, .int (nI b)), (2, .int (nI k))] [] I (sx_run rw m ln) := by
  have e0 : ∀ k, k ≤ n → (∀ i, i < k → ¬ (¬ I 79 (12 + 5 * i + 4) = nI 1 ∧ gs_off (I 79 (12 + 5 * i + 1)) (I 79 (12 + 5 * b + 1)) ≤ nI 2)) → k = n → K none I (sx_run rw m ln) := by
    intro k _ hbef e
    subst e
    have e : gs_rises (I 79) k b = I 79 := by
      unfold gs_rises
      rw [gs_fst_none _ k (fun i hi => decide_eq_false (hbef i hi)), if_neg (Nat.lt_irrefl k)]
    rw [e, sx_upself] at hk
    exact hk
  have e1 : ∀ k, k < n → (∀ i, i < k → ¬ (¬ I 79 (12 + 5 * i + 4) = nI 1 ∧ gs_off (I 79 (12 + 5 * i + 1)) (I 79 (12 + 5 * b + 1)) ≤ nI 2)) → (¬ I 79 (12 + 5 * k + 4) = nI 1 ∧ gs_off (I 79 (12 + 5 * k + 1)) (I 79 (12 + 5 * b + 1)) ≤ nI 2) → K none (sx_up I 79 (gs_set (I 79) k 4 (nI 1))) (sx_run rw m ln) := by
    intro k hlt hbef hat
    have e : gs_rises (I 79) n b = gs_set (I 79) k 4 (nI 1) := by
      unfold gs_rises
      rw [gs_fst_at _ n k hlt (fun i hi => decide_eq_false (hbef i hi)) (decide_eq_true hat), if_pos hlt]
    rw [e] at hk
    exact hk
  intro r
  induction r with
  | zero =>
    intro k hk2 hbef
    have : k = n := by omega
    subst this
    refine sx_go m147 60 rfl (fun VV CC hV hC => ?_)
    refine ⟨0, ⟨rfl, by omega⟩, fun c1 => ⟨0, ⟨rfl, by omega⟩, fun c2 => e0 k (Nat.le_refl _) hbef rfl, fun c2 => ?_⟩, fun c1 => ?_⟩
    · exfalso; rw [hn] at c2; exact c2 (nI_le (Nat.le_refl _) (by omega))
    · exfalso; rw [hn] at c1; exact c1 (nI_le (Nat.le_refl _) (by omega))
  | succ r ih =>
    intro k hk2 hbef
    have nxt : ¬ (¬ I 79 (12 + 5 * k + 4) = nI 1 ∧ gs_off (I 79 (12 + 5 * k + 1)) (I 79 (12 + 5 * b + 1)) ≤ nI 2) → sx_V 147 (d + 3) 0 0 K 2 [(0, .ref 78), (1, .int (nI b)), (2, .int (nI k + nI 1))] [] I (sx_run rw m ln) := by
      intro hno
      have := ih (k + 1) (by omega) (fun i hi => by
        rcases Nat.lt_or_ge i k with q | q
        · exact hbef i q
        · have : i = k := by omega
          subst this; exact hno)
      rw [nI_succ] at this
      exact this
    refine sx_go m147 60 rfl (fun VV CC hV hC => ?_)
    refine ⟨0, ⟨rfl, by omega⟩, fun c1 => ?_, fun c1 => ?_⟩
    · exfalso; rw [hn] at c1; exact nI_ge (show k < n by omega) (by omega) c1
    · refine hC _ _ _ _ _ (c_of rfl rfl (by omega) ⟨fun (c2 : _ = _) => hV _ _ _ _ _ _ _ (nxt (fun h => h.1 c2)), fun (c2 : ¬ _ = _) => ?_⟩)
      refine hC _ _ _ _ _ (c_of rfl rfl (by omega) ?_)
      refine hC _ _ _ _ _ (c_of rfl rfl (by omega) ?_)
      refine hC _ _ _ _ _ (c_off ⟨fun c3 => ⟨0, ⟨rfl, by omega⟩, fun c4 => ?_, fun c4 => hC _ _ _ _ _ (c_sets rfl rfl (by omega) (e1 k (by omega) hbef ⟨c2, c3⟩))⟩, fun c3 => hV _ _ _ _ _ _ _ (nxt (fun h => c3 h.2))⟩)
      exfalso; rw [hn] at c4; exact nI_ge (show k < n by omega) (by omega) c4
theorem c_rises {n b : Nat} {x : Int32} (hx : x = nI b) (hn : I 79 0 = nI n) (hn10 : n ≤ 10) (hb : b < 10) (hk : K none (sx_up I 79 (gs_rises (I 79) n b)) (sx_run rw m ln)) : sx_C 147 (d + 3) [.ref 78, .int x] I (sx_run rw m ln) K := by
  subst hx
  refine sx_enter (by decide +kernel) (Nat.le_of_ble_eq_true rfl) (sx_go m147 60 rfl (fun VV CC hV hC => hV _ _ _ _ _ _ _ ?_))
  exact v_rises (d := d) hn hn10 hb hk n 0 (by omega) (fun i hi => absurd hi (Nat.not_lt_zero i))
theorem v_watches {p : Int32} {n : Nat} {s : Nat → Int32} (hn : s 0 = nI n) (hn10 : n ≤ 10) (htx : gs_tx s) (hk : ∀ I', gs_sc (sx_up I 79 (gs_it (gs_watch1 p) n s)) I' → K none I' (sx_run rw m ln)) :
    ∀ (r k : Nat) (I' : sx_I), k + r = n → gs_sc (sx_up I 79 (gs_it (gs_watch1 p) k s)) I' → sx_V 148 (d + 6) 0 0 K 10 [(0, .ref 78), (1, .int p), (2, .int (nI k))] [] I' (sx_run rw m ln) := by
  have hlo : ∀ k, k ≤ n → gs_lo s (gs_it (gs_watch1 p) k s) := fun k hk => gs_lo.it s k (fun i s' hi => gs_lo.watch1 p i s' (by omega))
  intro r
  induction r with
  | zero =>
    intro k I' hk2 hsc
    have : k = n := by omega
    subst this
    have e79 : I' 79 = gs_it (gs_watch1 p) k s := (hsc 79 (by omega) (by omega)).trans (sx_up_same _ _ _)
    refine sx_go m148 60 rfl (fun VV CC hV hC => ?_)
    refine ⟨0, ⟨rfl, by omega⟩, fun c1 => hk I' hsc, fun c1 => ?_⟩
    exfalso; rw [e79, (hlo k (Nat.le_refl _)).1, hn] at c1; exact c1 (nI_le (Nat.le_refl _) (by omega))
  | succ r ih =>
    intro k I' hk2 hsc
    have e79 : I' 79 = gs_it (gs_watch1 p) k s := (hsc 79 (by omega) (by omega)).trans (sx_up_same _ _ _)
    have nxt : ∀ (s2 : Nat → Int32) (I2 : sx_I), s2 = gs_watch1 p k (gs_it (gs_watch1 p) k s) → gs_sc (sx_up I 79 s2) I2 → sx_V 148 (d + 6) 0 0 K 10 [(0, .ref 78), (1, .int p), (2, .int (nI k + nI 1))] [] I2 (sx_run rw m ln) := by
      intro s2 I2 h2 h3
      rw [h2] at h3
      have := ih (k + 1) I2 (by omega) h3
      rw [nI_succ] at this
      exact this
    have fin : ∀ (I2 : sx_I) (v : Int32), gs_sc I' I2 → ¬ gs_it (gs_watch1 p) k s 3 < gs_off (gs_it (gs_watch1 p) k s (12 + 5 * k + 1)) p → v = gs_wi (gs_it (gs_watch1 p) k s (12 + 5 * k + 3) + gs_by (gs_it (gs_watch1 p) k s) k) (nI 99) → sx_V 148 (d + 6) 0 0 K 10 [(0, .ref 78), (1, .int p), (2, .int (nI k + nI 1))] [] (sx_up I2 79 (gs_set (I2 79) k 3 v)) (sx_run rw m ln) := by
      intro I2 v h2 h3 hv
      have e2 : I2 79 = gs_it (gs_watch1 p) k s := (h2 79 (by omega) (by omega)).trans e79
      refine nxt (gs_set (gs_it (gs_watch1 p) k s) k 3 v) _ ?_ ?_
      · rw [gs_watch1_f h3, hv]
      · rw [e2]
        have := (hsc.tr h2).up 79 (gs_set (gs_it (gs_watch1 p) k s) k 3 v)
        rw [sx_upup] at this
        exact this
    refine sx_go m148 100 rfl (fun VV CC hV hC => ?_)
    refine ⟨0, ⟨rfl, by omega⟩, fun c1 => ?_, fun c1 => ?_⟩
    · exfalso; rw [e79, (hlo k (by omega)).1, hn] at c1; exact nI_ge (show k < n by omega) (by omega) c1
    · refine hC _ _ _ _ _ (c_of rfl rfl (by omega) ?_)
      refine hC _ _ _ _ _ (c_off ⟨3, ⟨rfl, by omega⟩, fun c2 => hV _ _ _ _ _ _ _ (nxt (gs_it (gs_watch1 p) k s) I' ?_ hsc), fun c2 => ?_⟩)
      · rw [e79] at c2
        rw [gs_watch1_t c2]
      · rw [e79] at c2
        refine hC _ _ _ _ _ (c_of rfl rfl (by omega) ⟨fun (c3 : ¬ _ = _) => ?_, fun (c3 : _ = _) => ?_⟩)
        · rw [e79] at c3
          refine hC _ _ _ _ _ (c_looks rfl (by omega) (by rw [e79]; exact gs_tx_lo (hlo k (by omega)) htx) (fun I2 h2 => ?_))
          have e2 : I2 79 = gs_it (gs_watch1 p) k s := (h2 79 (by omega) (by omega)).trans e79
          refine ⟨fun c4 => ?_, fun c4 => ?_⟩
          · rw [e79] at c4
            refine hC _ _ _ _ _ (c_of rfl rfl (by omega) (hC _ _ _ _ _ (c_within (hC _ _ _ _ _ (c_sets rfl rfl (by omega) (hV _ _ _ _ _ _ _ (fin I2 _ h2 c2 ?_)))))))
            rw [e2]; unfold gs_by; rw [if_neg c3, if_neg (Int32.not_lt.mpr c4)]
          · rw [e79] at c4
            refine hC _ _ _ _ _ (c_of rfl rfl (by omega) (hC _ _ _ _ _ (c_within (hC _ _ _ _ _ (c_sets rfl rfl (by omega) (hV _ _ _ _ _ _ _ (fin I2 _ h2 c2 ?_)))))))
            rw [e2]; unfold gs_by; rw [if_neg c3, if_pos (Int32.not_le.mp c4)]
        · rw [e79] at c3
          refine hC _ _ _ _ _ (c_of rfl rfl (by omega) (hC _ _ _ _ _ (c_within (hC _ _ _ _ _ (c_sets rfl rfl (by omega) (hV _ _ _ _ _ _ _ (fin I' _ (gs_sc.rf _) c2 ?_)))))))
          rw [e79]; unfold gs_by; rw [if_pos c3]
theorem c_watches {n : Nat} (hn : I 79 0 = nI n) (hn10 : n ≤ 10) (htx : gs_tx (I 79)) (hk : ∀ I', gs_sc (sx_up I 79 (gs_watches (I 79))) I' → K none I' (sx_run rw m ln)) : sx_C 148 (d + 6) [.ref 78] I (sx_run rw m ln) K := by
  refine sx_enter (by decide +kernel) (Nat.le_of_ble_eq_true rfl) (sx_go m148 60 rfl (fun VV CC hV hC => ?_))
  refine hC _ _ _ _ _ (c_drawn ⟨by decide +kernel, hV _ _ _ _ _ _ _ ?_⟩)
  unfold gs_watches gs_N at hk
  rw [hn, nI_clamp (by omega)] at hk
  exact v_watches (d := d) (by rw [pk_un (by omega)]; exact hn) hn10 (gs_tx_lo (gs_lo.up _ 11 _ (by omega) (by omega)) htx) hk n 0 _ (by omega) (gs_sc.rf _)
end
