def gs_few (h : Nat → Bool) : Nat → Nat → Nat → Nat
  | 0, _, c => c
  | f + 1, p, c => if 20 ≤ p then c else if h p then gs_few h f (p + 5) (c + 1) else gs_few h f (p + 1) c
def gs_liv (s : Nat → Int32) (p : Nat) : Bool := decide (gs_who s (gs_N s) (nI p) < gs_N s ∧ gs_lives (s (12 + 5 * gs_who s (gs_N s) (nI p) + 0)) = 0)
def gs_fewest (s : Nat → Int32) : Int32 := nI (gs_few (gs_liv s) 20 0 0)
def gs_ask (v w : Int32) : Int32 := if ¬ gs_in v (nI 1) (nI 60) = 0 ∧ ¬ gs_in w 0 (nI 1) = 0 then nI 1 else nI 0
def gs_waF (s : Nat → Int32) (c g : Nat) : Int32 := gs_cnt (gs_many c (gs_set s g 2 (nI 0)))
def gs_washed (s : Nat → Int32) (v w : Int32) : Int32 := if gs_ask v w = 0 then -1000000001 else if (gs_best (-1) nI (gs_waF s v.toNatClampNeg) (gs_N s)).1 < 0 then -1000000005 else if w = 0 then (gs_best (-1) nI (gs_waF s v.toNatClampNeg) (gs_N s)).1 else (gs_best (-1) nI (gs_waF s v.toNatClampNeg) (gs_N s)).2
def gs_beF (s : Nat → Int32) (g c j : Nat) : Int32 := gs_cnt (gs_many c (gs_set s g 0 (nI j)))
def gs_becomes (s : Nat → Int32) (g v w : Int32) : Int32 := if gs_in g 0 (s 0 - nI 1) = 0 ∨ gs_ask v w = 0 then -1000000001 else if w = 0 then (gs_best 0 nI (gs_beF s g.toNatClampNeg v.toNatClampNeg) 6).1 else (gs_best 0 nI (gs_beF s g.toNatClampNeg v.toNatClampNeg) 6).2
theorem gs_best_t {b0 : Int32} {lab f : Nat → Int32} {k : Nat} {v : Int32} (h : (gs_best b0 lab f k).2 < f k) (e : v = f k) : (gs_best b0 lab f (k + 1)) = (lab k, v) := by
  rw [gs_best, if_pos h, if_pos h, e]
theorem gs_best_f {b0 : Int32} {lab f : Nat → Int32} {k : Nat} (h : ¬ (gs_best b0 lab f k).2 < f k) : (gs_best b0 lab f (k + 1)) = gs_best b0 lab f k := by
  rw [gs_best, if_neg h, if_neg h]
theorem gs_whoV_lt {s : Nat → Int32} {n : Nat} {p : Int32} (hn : n ≤ 10) : gs_whoV s n p < 0 ↔ ¬ gs_who s n p < n := by
  unfold gs_whoV
  by_cases h : gs_who s n p < n
  · rw [if_pos h]; exact ⟨fun q => absurd q (nI_pos (by omega)), fun q => absurd h q⟩
  · rw [if_neg h]; exact ⟨fun _ => h, fun _ => by decide +kernel⟩
section
variable {d m : Nat} {I : sx_I} {rw : Nat → Nat → Option Nat} {ln : Nat → Nat} {K : sx_K}
theorem v_fewest {n : Nat} {s : Nat → Int32} (hs : I 79 = s) (hn : s 0 = nI n) (hn10 : n ≤ 10) :
    ∀ (f p c : Nat), 20 ≤ p + f → p ≤ 24 → K (some (.int (nI (gs_few (gs_liv s) f p c)))) I (sx_run rw m ln) → sx_V 159 (d + 3) 0 0 K 4 [(0, .ref 78), (1, .int (nI c)), (2, .int (nI p))] [] I (sx_run rw m ln)
  | 0, p, c, hp, hp2, hk => by
    refine sx_go m159 60 rfl (fun VV CC hV hC => ?_)
    exact ⟨fun c1 => hk, fun c1 => absurd (nI_le (show 20 ≤ p by omega) (by omega)) c1⟩
  | f + 1, p, c, hp, hp2, hk => by
    have eN := gs_N_eq hn hn10
    refine sx_go m159 60 rfl (fun VV CC hV hC => ?_)
    unfold gs_few at hk
    refine ⟨fun (c1 : nI 20 ≤ nI p) => ?_, fun (c1 : ¬ nI 20 ≤ nI p) => ?_⟩
    · rw [nI_leI (by omega) (by omega)] at c1
      rw [if_pos c1] at hk
      exact hk
    · rw [nI_leI (by omega) (by omega)] at c1
      rw [if_neg c1] at hk
      have no : gs_liv s p = false → sx_V 159 (d + 3) 0 0 K 4 [(0, .ref 78), (1, .int (nI c + nI 0)), (2, .int (nI p + nI 1))] [] I (sx_run rw m ln) := by
        intro h
        rw [h] at hk
        rw [nI_add, nI_add]
        exact v_fewest hs hn hn10 f (p + 1) c (by omega) (by omega) hk
      have yes : gs_liv s p = true → sx_V 159 (d + 3) 0 0 K 4 [(0, .ref 78), (1, .int (nI c + nI 1)), (2, .int (nI p + nI 5))] [] I (sx_run rw m ln) := by
        intro h
        rw [h] at hk
        rw [nI_add, nI_add]
        exact v_fewest hs hn hn10 f (p + 5) (c + 1) (by omega) (by omega) hk
      refine hC _ _ _ _ _ (c_whose (by rw [hs]; exact hn) hn10 ⟨fun (c2 : gs_whoV (I 79) n (nI p) < 0) => ⟨fun (_ : nI 0 = 0) => ⟨fun (_ : nI 0 = 0) => hV _ _ _ _ _ _ _ (no ?_), fun (q : ¬ nI 0 = 0) => absurd rfl q⟩, fun (q : ¬ nI 0 = 0) => absurd rfl q⟩, fun (c2 : ¬ gs_whoV (I 79) n (nI p) < 0) => ?_⟩)
      · rw [hs, gs_whoV_lt hn10] at c2
        refine decide_eq_false (fun h => ?_)
        rw [eN] at h
        exact c2 h.1
      · rw [hs, gs_whoV_lt hn10] at c2
        have c3 : gs_who s n (nI p) < n := Decidable.not_not.mp c2
        have e : gs_whoV (I 79) n (nI p) = nI (gs_who s n (nI p)) := by rw [hs]; exact if_pos c3
        refine hC _ _ _ _ _ (c_lives8 e (by omega) ⟨fun (c4 : ¬ _ = _) => ⟨fun (_ : nI 0 = 0) => ⟨fun (_ : nI 0 = 0) => hV _ _ _ _ _ _ _ (no ?_), fun (q : ¬ nI 0 = 0) => absurd rfl q⟩, fun (q : ¬ nI 0 = 0) => absurd rfl q⟩, fun (c4 : _ = _) => ⟨fun (q : nI 1 = 0) => absurd q (by decide +kernel), fun (q : ¬ nI 1 = 0) => ⟨fun (q : nI 1 = 0) => absurd q (by decide +kernel), fun (q : ¬ nI 1 = 0) => hV _ _ _ _ _ _ _ (yes ?_)⟩⟩⟩)
        · rw [hs] at c4
          refine decide_eq_false (fun h => ?_)
          rw [eN] at h
          exact c4 h.2
        · rw [hs] at c4
          refine decide_eq_true ?_
          rw [eN]
          exact ⟨c3, c4⟩
theorem c_fewest {n : Nat} (hn : I 79 0 = nI n) (hn10 : n ≤ 10) (hk : K (some (.int (gs_fewest (I 79)))) I (sx_run rw m ln)) : sx_C 159 (d + 3) [.ref 78] I (sx_run rw m ln) K := by
  refine sx_enter (by decide +kernel) (Nat.le_of_ble_eq_true rfl) (sx_go m159 60 rfl (fun VV CC hV hC => hV _ _ _ _ _ _ _ ?_))
  exact v_fewest (d := d) rfl hn hn10 20 0 0 (by omega) (by omega) hk
theorem c_isAsked {v w : Int32} {G : sx_G} (hk : K (some (.int (gs_ask v w))) I G) : sx_C 164 (d + 2) [.int v, .int w] I G K := by
  refine sx_enter (by decide +kernel) (Nat.le_of_ble_eq_true rfl) (sx_go m164 60 rfl (fun VV CC hV hC => ?_))
  refine hC _ _ _ _ _ (c_isIn rfl (by decide +kernel) (by decide +kernel) ⟨fun (c1 : gs_in v (nI 1) (nI 60) = 0) => ⟨Or.inl rfl, sx_kk (if_neg (fun h => h.1 c1)).symm hk⟩, fun (c1 : ¬ gs_in v (nI 1) (nI 60) = 0) => hC _ _ _ _ _ (c_isIn rfl (by decide +kernel) (by decide +kernel) ⟨fun (c2 : gs_in w 0 (nI 1) = 0) => ⟨Or.inl rfl, sx_kk (if_neg (fun h => h.2 c2)).symm hk⟩, fun (c2 : ¬ gs_in w 0 (nI 1) = 0) => ⟨Or.inr rfl, sx_kk (if_pos ⟨c1, c2⟩).symm hk⟩⟩)⟩)
theorem gs_ask01 (v w : Int32) : gs_ask v w = 0 ∨ gs_ask v w = 1 := sx_bool _
theorem gs_ask_c {v w : Int32} (h : ¬ gs_ask v w = 0) : ∃ c, v = nI c ∧ 1 ≤ c ∧ c ≤ 60 := by
  unfold gs_ask at h
  by_cases q : ¬ gs_in v (nI 1) (nI 60) = 0 ∧ ¬ gs_in w 0 (nI 1) = 0
  · exact gs_in_nat (by decide) q.1 (by decide)
  · rw [if_neg q] at h; exact absurd rfl h
theorem v_washed {n c : Nat} {w : Int32} (hc : c ≤ 100) (hn : I 79 0 = nI n) (hn10 : n ≤ 10) (htx : gs_tx (I 79)) (hk : ∀ I', gs_sd I I' → K (some (.int (if (gs_best (-1) nI (gs_waF (I 79) c) n).1 < 0 then -1000000005 else if w = 0 then (gs_best (-1) nI (gs_waF (I 79) c) n).1 else (gs_best (-1) nI (gs_waF (I 79) c) n).2))) I' (sx_run rw m ln)) :
    ∀ (r k : Nat) (I' : sx_I), k + r = n → gs_hold I I' → sx_V 165 (d + 9) 0 0 K 23 [(0, .ref 78), (1, .int (nI c)), (2, .int w), (3, .int (gs_best (-1) nI (gs_waF (I 79) c) k).1), (4, .int (gs_best (-1) nI (gs_waF (I 79) c) k).2), (5, .int (nI k))] [] I' (sx_run rw m ln) := by
  refine sx_for n (fun I' hh => ?_) (fun k I' hkc hh ih => ?_)
  · have hk2 := hk I' hh.1
    refine sx_go m165 60 rfl (fun VV CC hV hC => ?_)
    refine ⟨0, ⟨rfl, by omega⟩, fun c1 => ⟨fun (c2 : (0 : Int32) ≤ _) => ⟨fun (c3 : ¬ w = 0) => ?_, fun (c3 : w = 0) => ?_⟩, fun (c2 : ¬ (0 : Int32) ≤ _) => ?_⟩, fun c1 => ?_⟩
    · rw [if_neg (Int32.not_lt.mpr c2), if_neg c3] at hk2; exact hk2
    · rw [if_neg (Int32.not_lt.mpr c2), if_pos c3] at hk2; exact hk2
    · rw [if_pos (Int32.not_le.mp c2)] at hk2; exact hk2
    · exfalso; rw [hh.at, hn] at c1; exact c1 (nI_le (Nat.le_refl _) (by omega))
  · have e79 := hh.at
    refine sx_go m165 100 rfl (fun VV CC hV hC => ?_)
    refine ⟨0, ⟨rfl, by omega⟩, fun c1 => ?_, fun c1 => ?_⟩
    · exfalso; rw [e79, hn] at c1; exact nI_ge hkc (by omega) c1
    · have l1 : gs_lo (I 79) (gs_set (I 79) k 2 (nI 0)) := gs_lo.set _ k 2 _ (by omega) (by omega)
      have hl := l1.tr (gs_lo.many (l1.1.trans hn) hn10 c)
      refine hC _ _ _ _ _ (c_sets rfl rfl (by omega) (hC _ _ _ _ _ (c_many rfl (by omega) (by rw [sx_up_same, e79]; exact l1.1.trans hn) hn10 (by rw [sx_up_same, e79]; exact gs_tx_lo l1 htx) (fun I2 h2 => ?_))))
      rw [sx_up_same, sx_upup, e79] at h2
      refine hC _ _ _ _ _ (c_counted8 (n := n) (by rw [h2.at]; exact hl.1.trans hn) hn10 (by rw [h2.at]; exact gs_tx_lo hl htx) (fun I3 h3 => hC _ _ _ _ _ (c_laysBack ?_)))
      have hb := hh.back (h2.tr h3) hl
      have e : gs_cnt (I2 79) = gs_waF (I 79) c k := by rw [h2.at]; rfl
      refine ⟨fun (c4 : gs_cnt (I2 79) ≤ (gs_best (-1) nI (gs_waF (I 79) c) k).2) => ⟨fun (c5 : _ ≤ _) => hV _ _ _ _ _ _ _ ?_, fun (c5 : ¬ _ ≤ _) => absurd c4 c5⟩, fun (c4 : ¬ gs_cnt (I2 79) ≤ (gs_best (-1) nI (gs_waF (I 79) c) k).2) => ⟨fun (c5 : _ ≤ _) => absurd c5 c4, fun (c5 : ¬ _ ≤ _) => hV _ _ _ _ _ _ _ ?_⟩⟩
      · have := ih _ hb
        rw [nI_succ, gs_best_f (by rw [← e]; exact Int32.not_lt.mpr c4)] at this
        exact this
      · have := ih _ hb
        rw [nI_succ, gs_best_t (by rw [← e]; exact Int32.not_le.mp c4) e] at this
        exact this
theorem c_washed {n : Nat} {v w : Int32} (hn : I 79 0 = nI n) (hn10 : n ≤ 10) (htx : gs_tx (I 79)) (hk : ∀ I', gs_sd I I' → K (some (.int (gs_washed (I 79) v w))) I' (sx_run rw m ln)) : sx_C 165 (d + 9) [.ref 78, .int v, .int w] I (sx_run rw m ln) K := by
  refine sx_enter (by decide +kernel) (Nat.le_of_ble_eq_true rfl) (sx_go m165 60 rfl (fun VV CC hV hC => ?_))
  unfold gs_washed at hk
  rw [gs_N_eq hn hn10] at hk
  refine hC _ _ _ _ _ (c_isAsked ⟨fun (c1 : ¬ gs_ask v w = 0) => hC _ _ _ _ _ (c_laysBy (hV _ _ _ _ _ _ _ ?_)), fun (c1 : gs_ask v w = 0) => ?_⟩)
  · obtain ⟨c, rfl, h1, h2⟩ := gs_ask_c c1
    rw [if_neg c1, nI_clamp (by omega)] at hk
    exact v_washed (d := d) (by omega) hn hn10 htx hk n 0 _ (by omega) (gs_hold.start I)
  · have := hk I (gs_sd.rf I)
    rw [if_pos c1] at this
    exact this
theorem v_becomes {n c g : Nat} {w : Int32} (hg : g < 10) (hc : c ≤ 100) (hn : I 79 0 = nI n) (hn10 : n ≤ 10) (htx : gs_tx (I 79)) (hk : ∀ I', gs_sd I I' → K (some (.int (if w = 0 then (gs_best 0 nI (gs_beF (I 79) g c) 6).1 else (gs_best 0 nI (gs_beF (I 79) g c) 6).2))) I' (sx_run rw m ln)) :
    ∀ (r k : Nat) (I' : sx_I), k + r = 6 → gs_hold I I' → sx_V 167 (d + 9) 0 0 K 32 [(0, .ref 78), (1, .int (nI g)), (2, .int (nI c)), (3, .int w), (4, .int (gs_best 0 nI (gs_beF (I 79) g c) k).1), (5, .int (gs_best 0 nI (gs_beF (I 79) g c) k).2), (6, .int (nI k))] [] I' (sx_run rw m ln) := by
  refine sx_for 6 (fun I' hh => ?_) (fun k I' hkc hh ih => ?_)
  · have hk2 := hk I' hh.1
    refine sx_go m167 60 rfl (fun VV CC hV hC => ?_)
    refine ⟨fun c1 => ⟨fun (c3 : ¬ w = 0) => ?_, fun (c3 : w = 0) => ?_⟩, fun c1 => absurd (nI_le (Nat.le_refl 6) (by omega)) c1⟩
    · rw [if_neg c3] at hk2; exact hk2
    · rw [if_pos c3] at hk2; exact hk2
  · have e79 := hh.at
    refine sx_go m167 100 rfl (fun VV CC hV hC => ?_)
    refine ⟨fun c1 => absurd c1 (nI_ge hkc (by omega)), fun c1 => ?_⟩
    have l1 : gs_lo (I 79) (gs_set (I 79) g 0 (nI k)) := gs_lo.set _ g 0 _ (by omega) (by omega)
    have hl := l1.tr (gs_lo.many (l1.1.trans hn) hn10 c)
    refine hC _ _ _ _ _ (c_sets rfl rfl (by omega) (hC _ _ _ _ _ (c_many rfl (by omega) (by rw [sx_up_same, e79]; exact l1.1.trans hn) hn10 (by rw [sx_up_same, e79]; exact gs_tx_lo l1 htx) (fun I2 h2 => ?_))))
    rw [sx_up_same, sx_upup, e79] at h2
    refine hC _ _ _ _ _ (c_counted8 (n := n) (by rw [h2.at]; exact hl.1.trans hn) hn10 (by rw [h2.at]; exact gs_tx_lo hl htx) (fun I3 h3 => hC _ _ _ _ _ (c_laysBack ?_)))
    have hb := hh.back (h2.tr h3) hl
    have e : gs_cnt (I2 79) = gs_beF (I 79) g c k := by rw [h2.at]; rfl
    refine ⟨fun (c4 : gs_cnt (I2 79) ≤ (gs_best 0 nI (gs_beF (I 79) g c) k).2) => ⟨fun (c5 : _ ≤ _) => hV _ _ _ _ _ _ _ ?_, fun (c5 : ¬ _ ≤ _) => absurd c4 c5⟩, fun (c4 : ¬ gs_cnt (I2 79) ≤ (gs_best 0 nI (gs_beF (I 79) g c) k).2) => ⟨fun (c5 : _ ≤ _) => absurd c5 c4, fun (c5 : ¬ _ ≤ _) => hV _ _ _ _ _ _ _ ?_⟩⟩
    · have := ih _ hb
      rw [nI_succ, gs_best_f (by rw [← e]; exact Int32.not_lt.mpr c4)] at this
      exact this
    · have := ih _ hb
      rw [nI_succ, gs_best_t (by rw [← e]; exact Int32.not_le.mp c4) e] at this
      exact this
theorem c_becomes {n : Nat} {g v w : Int32} (hn : I 79 0 = nI n) (hn10 : n ≤ 10) (htx : gs_tx (I 79)) (hk : ∀ I', gs_sd I I' → K (some (.int (gs_becomes (I 79) g v w))) I' (sx_run rw m ln)) : sx_C 167 (d + 9) [.ref 78, .int g, .int v, .int w] I (sx_run rw m ln) K := by
  refine sx_enter (by decide +kernel) (Nat.le_of_ble_eq_true rfl) (sx_go m167 60 rfl (fun VV CC hV hC => ?_))
  unfold gs_becomes at hk
  have bad : (gs_in g 0 (I 79 0 - nI 1) = 0 ∨ gs_ask v w = 0) → K (some (.int (-1000000001))) I (sx_run rw m ln) := by
    intro h
    have := hk I (gs_sd.rf I)
    rw [if_pos h] at this
    exact this
  refine hC _ _ _ _ _ (c_isGuard8 ⟨fun (c1 : gs_in g 0 (I 79 0 - nI 1) = 0) => bad (Or.inl c1), fun (c1 : ¬ gs_in g 0 (I 79 0 - nI 1) = 0) => hC _ _ _ _ _ (c_isAsked ⟨fun (c2 : ¬ gs_ask v w = 0) => hC _ _ _ _ _ (c_laysBy (hV _ _ _ _ _ _ _ ?_)), fun (c2 : gs_ask v w = 0) => bad (Or.inr c2)⟩)⟩)
  obtain ⟨c, rfl, h1, h2⟩ := gs_ask_c c2
  obtain ⟨k, rfl, h3⟩ := gs_guard hn hn10 c1
  rw [if_neg (fun h => h.elim c1 c2), nI_clamp (by omega), nI_clamp (by omega)] at hk
  exact v_becomes (d := d) (by omega) (by omega) hn hn10 htx hk 6 0 _ (by omega) (gs_hold.start I)
end
