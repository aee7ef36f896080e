/-! ===== the class: nights; where one had best stand; how few reach all ===== -/
theorem i32_addsub (a b : Int32) : a + b - a = b := by rw [Int32.add_comm, Int32.add_sub_cancel]
theorem gs_reach_nat (s : Nat → Int32) (g p : Int32) : ∀ n, ∃ c, gs_sum (gs_reF s g p) n = nI c ∧ c ≤ n
  | 0 => ⟨0, rfl, Nat.le_refl 0⟩
  | n + 1 => by
    obtain ⟨c, h1, h2⟩ := gs_reach_nat s g p n
    have : gs_reF s g p n = 0 ∨ gs_reF s g p n = nI 1 := by
      unfold gs_reF
      split
      · exact Or.inl rfl
      · split
        · exact Or.inl rfl
        · split
          · exact Or.inl rfl
          · exact Or.inr rfl
    rcases this with e | e
    · exact ⟨c, by rw [gs_sum, e, h1]; exact Int32.add_zero _, by omega⟩
    · exact ⟨c + 1, by rw [gs_sum, e, h1, nI_add], by omega⟩
theorem gs_best_or (f : Nat → Int32) (hf : ∀ p, -1 ≤ f p) : ∀ k, (-1 ≤ (gs_best (-1) nI f k).2) ∧ (((gs_best (-1) nI f k).1 = -1 ∧ (gs_best (-1) nI f k).2 = -1 ∧ ∀ p, p < k → f p = -1) ∨ ∃ p, p < k ∧ (gs_best (-1) nI f k).1 = nI p)
  | 0 => ⟨Int32.le_refl _, Or.inl ⟨rfl, rfl, fun p hp => absurd hp (Nat.not_lt_zero p)⟩⟩
  | k + 1 => by
    obtain ⟨h0, h⟩ := gs_best_or f hf k
    by_cases c : (gs_best (-1) nI f k).2 < f k
    · rw [gs_best_t c rfl]
      exact ⟨hf k, Or.inr ⟨k, by omega, rfl⟩⟩
    · rw [gs_best_f c]
      refine ⟨h0, ?_⟩
      rcases h with ⟨h1, h2, h3⟩ | ⟨p, h1, h2⟩
      · refine Or.inl ⟨h1, h2, fun p hp => ?_⟩
        rcases Nat.lt_or_ge p k with q | q
        · exact h3 p q
        · have : p = k := by omega
          subst this
          rw [h2] at c
          exact Int32.le_antisymm (Int32.not_lt.mp c) (hf p)
      · exact Or.inr ⟨p, by omega, h2⟩
section
variable {d m : Nat} {I : sx_I} {rw : Nat → Nat → Option Nat} {ln : Nat → Nat} {K : sx_K} {s : Nat → Int32}
theorem v1_seen {n q : Nat} {p : Int32} (hb : gb 19 s I) (hi : gs_inv s) (hn : s 0 = nI n) (hn10 : n ≤ 10) (hp : p = nI q) (hq : q < 20) (hk : K (some (.int (gs_ors (gs_seenF s p) n))) I (sx_run rw m ln)) :
    ∀ (r k : Nat) (I' : sx_I), k + r = n → I' = I → sx_V 69 (d + 3) 0 0 K 14 [(0, .ref 15), (1, .int p), (2, .int (gs_ors (gs_seenF s p) k)), (3, .int (nI k))] [] I' (sx_run rw m ln) := by
  refine sx_for n (fun I' h => ?_) (fun k I' hkc h ih => ?_)
  · subst h
    refine sx_go m69 60 rfl (fun VV CC hV hC => ?_)
    refine ⟨fun _ => hk, fun (c1 : ¬ I' 19 1 ≤ nI n) => ?_⟩
    exfalso; rw [hb.1.1, hn] at c1; exact c1 (Int32.le_refl _)
  · subst h
    have nxt : ∀ v, v = gs_ors (gs_seenF s p) k ||| gs_seenF s p k → sx_V 69 (d + 3) 0 0 K 14 [(0, .ref 15), (1, .int p), (2, .int v), (3, .int (nI k + nI 1))] [] I' (sx_run rw m ln) := by
      intro v hv
      have := ih I' rfl
      rw [nI_succ k] at this
      rw [hv]
      exact this
    refine sx_go m69 60 rfl (fun VV CC hV hC => ?_)
    refine ⟨fun (c1 : I' 19 1 ≤ nI k) => ?_, fun _ => hC _ _ _ _ _ (c_sight_19 rfl (by omega) hp hq hb hi ⟨fun (c2 : gb_sight s k p = 0) => hV _ _ _ _ _ _ _ (nxt _ ?_), fun (c2 : ¬ gb_sight s k p = 0) => hV _ _ _ _ _ _ _ (nxt _ ?_)⟩)⟩
    · exfalso; rw [hb.1.1, hn] at c1; exact nI_ge hkc (by omega) c1
    · unfold gb_sight at c2
      by_cases h : s 3 < gs_off (s (12 + 5 * k + 1)) p
      · rw [show gs_seenF s p k = 0 from if_neg (Int32.not_le.mpr h)]; simp
      · rw [if_neg h] at c2; exact absurd c2 (by decide +kernel)
    · unfold gb_sight at c2
      by_cases h : s 3 < gs_off (s (12 + 5 * k + 1)) p
      · rw [if_pos h] at c2; exact absurd rfl c2
      · rw [show gs_seenF s p k = nI 1 <<< (nI k &&& 31) from if_pos (Int32.not_lt.mp h)]
theorem c1_seen {p : Int32} (hb : gb 19 s I) (hi : gs_inv s) (hk : K (some (.int (gs_seen s p))) I (sx_run rw m ln)) : sx_C 69 (d + 3) [.ref 15, .int p] I (sx_run rw m ln) K := by
  obtain ⟨⟨n, hn, hn10⟩, -⟩ := id hi
  unfold gs_seen at hk
  rw [gs_N_eq hn hn10] at hk
  refine sx_enter (by decide +kernel) (Nat.le_of_ble_eq_true rfl) (sx_go m69 60 rfl (fun VV CC hV hC => ?_))
  refine hC _ _ _ _ _ (c_isPost1 ⟨fun (c1 : ¬ gs_in p 0 (nI 19) = 0) => hV _ _ _ _ _ _ _ ?_, fun (c1 : gs_in p 0 (nI 19) = 0) => ?_⟩)
  · obtain ⟨q, hq, -, hq19⟩ := gs_in_nat (a := 0) (by omega) c1 (by decide)
    rw [if_neg c1] at hk
    exact v1_seen (d := d) hb hi hn hn10 hq (by omega) hk n 0 I (by omega) rfl
  · rw [if_pos c1] at hk; exact hk
theorem v1_nights {n t0 M : Nat} (hM : M ≤ 100) (hi : gs_inv s) (htx : gb_tx I (rw 19) m ln s) (hn : s 0 = nI n) (hn10 : n ≤ 10) (hnt : s 2 = nI t0) (ht0 : t0 + M < 2 ^ 31) (hk : ∀ I', gb_fr 19 I I' → gb 19 (gs_many M s) I' → K (some (.int (nI (gs_rc s M)))) I' (sx_run rw m ln)) :
    ∀ (r k : Nat) (I' : sx_I), k + r = M → (gb_fr 19 I I' ∧ gb 19 (gs_many k s) I') → sx_V 70 (d + 6) 0 0 K 34 [(0, .ref 15), (2, .int (nI M)), (3, .int (nI (gs_rc s k))), (4, .int (nI k))] [] I' (sx_run rw m ln) := by
  refine sx_for M (fun I' h => ?_) (fun k I' hkc h ih => ?_)
  · refine sx_go m70 60 rfl (fun VV CC hV hC => ?_)
    exact ⟨fun _ => hk I' h.1 h.2, fun (c1 : ¬ nI M ≤ nI M) => absurd (Int32.le_refl _) c1⟩
  · have hl := gs_lo.many hn hn10 k
    refine sx_go m70 60 rfl (fun VV CC hV hC => ?_)
    refine ⟨fun (c1 : nI M ≤ nI k) => absurd c1 (nI_ge hkc (by omega)), fun _ => hC _ _ _ _ _ (c_pass_19 h.2 (hi.many k) (htx.lo (h.1.hi (by omega)) hl) (gs_many_2 hnt k) (by omega) (fun I2 f2 b2 => ?_))⟩
    have hI := ih I2 ⟨h.1.tr f2, b2⟩
    rw [nI_succ k] at hI
    cases e : gs_rd (gs_many k s) with
    | false =>
      have er : gs_rc s (k + 1) = gs_rc s k := by show gs_rc s k + _ = _; rw [e]; rfl
      rw [er] at hI
      exact ⟨fun _ => hV _ _ _ _ _ _ _ hI, fun (q : ¬ nI 0 = 0) => absurd rfl q⟩
    | true =>
      have er : gs_rc s (k + 1) = gs_rc s k + 1 := by show gs_rc s k + _ = _; rw [e]; rfl
      rw [er, nI_succ (gs_rc s k)] at hI
      exact ⟨fun (q : nI 1 = 0) => absurd q (by decide +kernel), fun _ => hV _ _ _ _ _ _ _ hI⟩
theorem c1_nights {t0 : Nat} {v : Int32} (hb : gb 19 s I) (hi : gs_inv s) (htx : gb_tx I (rw 19) m ln s) (hnt : s 2 = nI t0) (ht0 : t0 ≤ 9999) (hk : ∀ I', gb_fr 19 I I' → gb 19 (gs_nightsS s v) I' → K (some (.int (gs_nightsA s v))) I' (sx_run rw m ln)) : sx_C 70 (d + 6) [.ref 15, .int v] I (sx_run rw m ln) K := by
  obtain ⟨⟨n, hn, hn10⟩, -⟩ := id hi
  refine sx_enter (by decide +kernel) (Nat.le_of_ble_eq_true rfl) (sx_go m70 60 rfl (fun VV CC hV hC => ?_))
  refine hC _ _ _ _ _ (c_isWithin ⟨fun (c1 : ¬ gs_in v (nI 1) (nI 100) = 0) => hC _ _ _ _ _ (c_min (hV _ _ _ _ _ _ _ ?_)), fun (c1 : gs_in v (nI 1) (nI 100) = 0) => ?_⟩)
  · have eS : gs_nightsS s v = gs_many (gs_cut s v) s := if_neg c1
    have eA : gs_nightsA s v = gs_raids (gs_nightsS s v) - gs_raids s := if_neg c1
    obtain ⟨c, rfl, h1, h2⟩ := gs_in_nat (by decide) c1 (by decide)
    have ec : gs_cut s (nI c) = min c (9999 - t0) := by
      unfold gs_cut
      rw [hnt, pk_sub (by omega)]
      by_cases h : c < 9999 - t0
      · rw [if_pos (nI_lt h (by omega)), nI_clamp (by omega)]; omega
      · rw [if_neg (nI_nlt (by omega) (by omega)), nI_clamp (by omega)]; omega
    have em : gs_min (nI c) (nI 9999 - I 19 9) = nI (min c (9999 - t0)) := by
      rw [hb.1.2.1, hnt, pk_sub (by omega)]
      unfold gs_min
      by_cases h : 9999 - t0 < c
      · rw [if_pos (nI_lt h (by omega)), show min c (9999 - t0) = 9999 - t0 by omega]
      · rw [if_neg (nI_nlt (by omega) (by omega)), show min c (9999 - t0) = c by omega]
    rw [eA, eS, ec, gs_raids_many, i32_addsub] at hk
    rw [em]
    exact v1_nights (d := d) (by omega) hi htx hn hn10 hnt (by omega) hk (min c (9999 - t0)) 0 I (by omega) ⟨gb_fr.rf _ _, hb⟩
  · have eS : gs_nightsS s v = s := if_pos c1
    have eA : gs_nightsA s v = -1000000001 := if_pos c1
    rw [eA, eS] at hk
    exact hk I (gb_fr.rf _ _) hb
theorem c1_border {t0 : Nat} {w : Int32} (hb : gb 19 s I) (hi : gs_inv s) (htx : gb_tx I (rw 19) m ln s) (hnt : s 2 = nI t0) (ht0 : t0 < 2 ^ 31) (hk : ∀ I', gb_k I I' → K (some (.int (gs_border s w))) I' (sx_run rw m ln)) : sx_C 71 (d + 5) [.ref 15, .int w] I (sx_run rw m ln) K := by
  obtain ⟨⟨n, hn, hn10⟩, -⟩ := id hi
  generalize e : gs_border s w = r at hk
  unfold gs_border at e
  have rd : ∀ x, x = r → K (some (.int x)) I (sx_run rw m ln) := fun x h => by rw [h]; exact hk I (gb_k.rf I)
  have inr : ∀ c, w = nI c → c ≤ 6 → (if w < nI 3 then s (7 + w.toNatClampNeg) else if w = nI 3 then gs_cnt s else if w = nI 4 then gs_str s else if w = nI 5 then gs_downs s else gs_doubts s) = r := by
    intro c hw hc
    rw [if_neg (by rw [hw]; exact gs_in_c hc (by omega))] at e
    exact e
  have lo : ∀ c, w = nI c → c < 3 → s (7 + c) = r := by
    intro c hw hc
    have := inr c hw (by omega)
    rw [hw, if_pos (nI_lt hc (by omega)), nI_clamp (by omega)] at this
    exact this
  have hi2 : ∀ c, w = nI c → 3 ≤ c → c ≤ 6 → (if c = 3 then gs_cnt s else if c = 4 then gs_str s else if c = 5 then gs_downs s else gs_doubts s) = r := by
    intro c hw h3 hc
    have := inr c hw hc
    rw [hw, if_neg (nI_nlt h3 (by omega))] at this
    have c3 : c = 3 ∨ c = 4 ∨ c = 5 ∨ c = 6 := by omega
    rcases c3 with rfl | rfl | rfl | rfl
    · exact this
    · exact this
    · exact this
    · exact this
  refine sx_enter (by decide +kernel) (Nat.le_of_ble_eq_true rfl) (sx_go m71 100 rfl (fun VV CC hV hC => ?_))
  refine ⟨fun (c2 : w = nI 0) => ⟨0, ⟨rfl, by omega⟩, rd _ (by rw [gb_toll_19 hb (by omega)]; exact lo 0 c2 (by omega))⟩, fun (q0 : ¬ w = nI 0) => ⟨fun (c2 : w = nI 1) => ⟨1, ⟨rfl, by omega⟩, rd _ (by rw [gb_toll_19 hb (by omega)]; exact lo 1 c2 (by omega))⟩, fun (q1 : ¬ w = nI 1) => ⟨fun (c2 : w = nI 2) => ⟨2, ⟨rfl, by omega⟩, rd _ (by rw [gb_toll_19 hb (by omega)]; exact lo 2 c2 (by omega))⟩, fun (q2 : ¬ w = nI 2) => ⟨fun (c2 : w = nI 3) => hC _ _ _ _ _ (c_counted_19 hb hn hn10 htx hnt ht0 (fun I' h => sx_kk (hi2 3 c2 (by omega) (by omega)) (hk I' h))), fun (q3 : ¬ w = nI 3) => ⟨fun (c2 : w = nI 4) => hC _ _ _ _ _ (c_strength_19 hb hn hn10 (rd _ (hi2 4 c2 (by omega) (by omega)))), fun (q4 : ¬ w = nI 4) => ⟨fun (c2 : w = nI 5) => hC _ _ _ _ _ (c_downs_19 hb hn hn10 (rd _ (hi2 5 c2 (by omega) (by omega)))), fun (q5 : ¬ w = nI 5) => ⟨fun (c2 : w = nI 6) => hC _ _ _ _ _ (c_doubts_19 hb hn hn10 (rd _ (hi2 6 c2 (by omega) (by omega)))), fun (q6 : ¬ w = nI 6) => rd _ ?_⟩⟩⟩⟩⟩⟩⟩
  have : gs_in w 0 (nI 6) = 0 := by
    refine Decidable.byContradiction (fun h => ?_)
    obtain ⟨c, hw, -, hc⟩ := gs_in_nat (a := 0) (by omega) h (by decide)
    have : c = 0 ∨ c = 1 ∨ c = 2 ∨ c = 3 ∨ c = 4 ∨ c = 5 ∨ c = 6 := by omega
    rcases this with rfl | rfl | rfl | rfl | rfl | rfl | rfl
    · exact q0 hw
    · exact q1 hw
    · exact q2 hw
    · exact q3 hw
    · exact q4 hw
    · exact q5 hw
    · exact q6 hw
  rw [if_pos this] at e
  exact e
theorem v1_covers {n : Nat} {g w : Int32} (hb : gb 19 s I) (hi : gs_inv s) (hn : s 0 = nI n) (hn10 : n ≤ 10) (hg : ∃ j, g = nI j ∧ j < 10) (hk : K (some (.int (if w = 0 then gs_on (gs_best (-1) nI (gs_covF s g) 20).1 else (gs_best (-1) nI (gs_covF s g) 20).2))) I (sx_run rw m ln)) :
    ∀ (r k : Nat) (I' : sx_I), k + r = 20 → I' = I → sx_V 72 (d + 4) 0 0 K 29 [(0, .ref 15), (1, .int g), (2, .int w), (3, .int (gs_on (gs_best (-1) nI (gs_covF s g) k).1)), (4, .int (gs_best (-1) nI (gs_covF s g) k).2), (5, .int (nI k))] [] I' (sx_run rw m ln) := by
  have eN := gs_N_eq hn hn10
  have hge : ∀ p, -1 ≤ gs_covF s g p := by
    intro p
    unfold gs_covF gs_reach
    split
    · exact Int32.le_refl _
    · rw [eN]
      obtain ⟨c, hc, hc2⟩ := gs_reach_nat s g (nI p) n
      rw [hc]
      exact Int32.le_trans (by decide +kernel) (nI_pos' (n := c) (by omega))
  refine sx_for 20 (fun I' h => ?_) (fun k I' hkc h ih => ?_)
  · subst h
    refine sx_go m72 60 rfl (fun VV CC hV hC => ?_)
    refine ⟨fun _ => ⟨fun (c2 : ¬ w = 0) => ?_, fun (c2 : w = 0) => ?_⟩, fun (c1 : ¬ nI 20 ≤ nI 20) => absurd (Int32.le_refl _) c1⟩
    · rw [if_neg c2] at hk; exact hk
    · rw [if_pos c2] at hk; exact hk
  · subst h
    have yes : (gs_best (-1) nI (gs_covF s g) k).2 < gs_covF s g k → sx_V 72 (d + 4) 0 0 K 29 [(0, .ref 15), (1, .int g), (2, .int w), (3, .int (nI k)), (4, .int (gs_covF s g k)), (5, .int (nI k + nI 1))] [] I' (sx_run rw m ln) := by
      intro hlt
      have := ih I' rfl
      rw [nI_succ k, gs_best_t hlt rfl, gs_on_t (by omega)] at this
      exact this
    have no : ¬ (gs_best (-1) nI (gs_covF s g) k).2 < gs_covF s g k → sx_V 72 (d + 4) 0 0 K 29 [(0, .ref 15), (1, .int g), (2, .int w), (3, .int (gs_on (gs_best (-1) nI (gs_covF s g) k).1)), (4, .int (gs_best (-1) nI (gs_covF s g) k).2), (5, .int (nI k + nI 1))] [] I' (sx_run rw m ln) := by
      intro hlt
      have := ih I' rfl
      rw [nI_succ k, gs_best_f hlt] at this
      exact this
    have near : gs_covF s g k = gs_reach s g (nI k) → (gs_reach s g (nI k) ≤ (gs_best (-1) nI (gs_covF s g) k).2 → sx_V 72 (d + 4) 0 0 K 29 [(0, .ref 15), (1, .int g), (2, .int w), (3, .int (gs_on (gs_best (-1) nI (gs_covF s g) k).1)), (4, .int (gs_best (-1) nI (gs_covF s g) k).2), (5, .int (nI k + nI 1))] [] I' (sx_run rw m ln)) ∧ (¬ gs_reach s g (nI k) ≤ (gs_best (-1) nI (gs_covF s g) k).2 → sx_V 72 (d + 4) 0 0 K 29 [(0, .ref 15), (1, .int g), (2, .int w), (3, .int (nI k)), (4, .int (gs_reach s g (nI k))), (5, .int (nI k + nI 1))] [] I' (sx_run rw m ln)) := by
      intro e
      refine ⟨fun h => no (by rw [e]; exact Int32.not_lt.mpr h), fun h => ?_⟩
      have := yes (by rw [e]; exact Int32.not_le.mp h)
      rw [e] at this
      exact this
    refine sx_go m72 60 rfl (fun VV CC hV hC => ?_)
    refine ⟨fun (c1 : nI 20 ≤ nI k) => absurd c1 (nI_ge hkc (by omega)), fun _ => hC _ _ _ _ _ (c_owner_19 hb hn hn10 ⟨fun (c2 : gs_on (gs_whoV s n (nI k)) = -1000000005) => ?_, fun (c2 : ¬ gs_on (gs_whoV s n (nI k)) = -1000000005) => ⟨fun (c3 : ¬ gs_on (gs_whoV s n (nI k)) = g) => hV _ _ _ _ _ _ _ (no ?_), fun (c3 : gs_on (gs_whoV s n (nI k)) = g) => ?_⟩⟩)⟩
    · rw [gs_on_none hn10] at c2
      have e : gs_covF s g k = gs_reach s g (nI k) := by
        unfold gs_covF; rw [eN, if_neg (fun h => h.1 ((gs_whoV_lt hn10).mpr c2))]
      obtain ⟨n1, n2⟩ := near e
      exact hC _ _ _ _ _ (c_others_19 hb hi hn hn10 rfl (by omega) ⟨fun h => hV _ _ _ _ _ _ _ (n1 h), fun h => hV _ _ _ _ _ _ _ (n2 h)⟩)
    · rw [gs_on_none hn10] at c2
      have c4 : gs_who s n (nI k) < n := Decidable.not_not.mp c2
      rw [gs_on_some hn10 c4] at c3
      have e : gs_covF s g k = -1 := by
        unfold gs_covF
        rw [eN, if_pos ⟨fun h => c2 ((gs_whoV_lt hn10).mp h), by unfold gs_whoV; rw [if_pos c4]; exact c3⟩]
      rw [e]
      exact Int32.not_lt.mpr (gs_best_or _ hge k).1
    · rw [gs_on_none hn10] at c2
      have c4 : gs_who s n (nI k) < n := Decidable.not_not.mp c2
      rw [gs_on_some hn10 c4] at c3
      have e : gs_covF s g k = gs_reach s g (nI k) := by
        unfold gs_covF
        rw [eN, if_neg (fun h => h.2 (by unfold gs_whoV; rw [if_pos c4]; exact c3))]
      obtain ⟨n1, n2⟩ := near e
      exact hC _ _ _ _ _ (c_others_19 hb hi hn hn10 rfl (by omega) ⟨fun h => hV _ _ _ _ _ _ _ (n1 h), fun h => hV _ _ _ _ _ _ _ (n2 h)⟩)
theorem c1_covers {g w : Int32} (hb : gb 19 s I) (hi : gs_inv s) (hk : K (some (.int (gs_covers s g w))) I (sx_run rw m ln)) : sx_C 72 (d + 4) [.ref 15, .int g, .int w] I (sx_run rw m ln) K := by
  obtain ⟨⟨n, hn, hn10⟩, -⟩ := id hi
  have eN := gs_N_eq hn hn10
  unfold gs_covers at hk
  have bad : (gs_in g 0 (s 0 - nI 1) = 0 ∨ gs_in w 0 (nI 1) = 0) → K (some (.int (-1000000001))) I (sx_run rw m ln) := fun h => by rw [if_pos h] at hk; exact hk
  refine sx_enter (by decide +kernel) (Nat.le_of_ble_eq_true rfl) (sx_go m72 60 rfl (fun VV CC hV hC => ?_))
  refine hC _ _ _ _ _ (c_isGuard1 hb.1.1 ⟨fun (c1 : gs_in g 0 (s 0 - nI 1) = 0) => bad (Or.inl c1), fun (c1 : ¬ gs_in g 0 (s 0 - nI 1) = 0) => hC _ _ _ _ _ (c_isWithin ⟨fun (c2 : ¬ gs_in w 0 (nI 1) = 0) => hV _ _ _ _ _ _ _ ?_, fun (c2 : gs_in w 0 (nI 1) = 0) => bad (Or.inr c2)⟩)⟩)
  rw [if_neg (fun h => h.elim c1 c2)] at hk
  obtain ⟨j, rfl, hj⟩ := gs_guard hn hn10 c1
  refine v1_covers (d := d) hb hi hn hn10 ⟨j, rfl, by omega⟩ ?_ 20 0 I (by omega) rfl
  have hge : ∀ p, -1 ≤ gs_covF s (nI j) p := by
    intro p
    unfold gs_covF gs_reach
    split
    · exact Int32.le_refl _
    · rw [eN]
      obtain ⟨c, hc, hc2⟩ := gs_reach_nat s (nI j) (nI p) n
      rw [hc]
      exact Int32.le_trans (by decide +kernel) (nI_pos' (n := c) (by omega))
  obtain ⟨p, hp, hf⟩ := gs_freepost (s := s) (n := n) hn10 0
  have hcv : gs_covF s (nI j) ((0 + p) % 20) = gs_reach s (nI j) (nI ((0 + p) % 20)) := by
    unfold gs_covF; rw [eN, if_neg (fun h => h.1 ((gs_whoV_lt hn10).mpr hf))]
  have e1 : gs_on (gs_best (-1) nI (gs_covF s (nI j)) 20).1 = (gs_best (-1) nI (gs_covF s (nI j)) 20).1 := by
    rcases (gs_best_or _ hge 20).2 with ⟨-, -, h3⟩ | ⟨q, hq, h4⟩
    · exfalso
      have := h3 ((0 + p) % 20) (by omega)
      rw [hcv] at this
      unfold gs_reach at this
      rw [eN] at this
      obtain ⟨c, hc, hc2⟩ := gs_reach_nat s (nI j) (nI ((0 + p) % 20)) n
      rw [hc] at this
      have h5 := nI_pos' (n := c) (by omega)
      rw [this] at h5
      exact absurd h5 (by decide +kernel)
    · rw [h4, gs_on_t (by omega)]
  rw [e1]
  exact hk
theorem v1_fewest {n : Nat} (hb : gb 19 s I) (hn : s 0 = nI n) (hn10 : n ≤ 10) :
    ∀ (r p r1 c f : Nat) (x : Int32), p + r = 20 → r1 ≤ 24 → x = nI r1 + -1 → 20 ≤ max p r1 + f → K (some (.int (nI (gs_few (gs_liv s) f (max p r1) c)))) I (sx_run rw m ln) → sx_V 73 (d + 2) 0 0 K 6 [(0, .ref 15), (1, .int (nI c)), (2, .int x), (3, .int (nI p))] [] I (sx_run rw m ln)
  | 0, p, r1, c, f, x, hp, hr, hx, hf, hk => by
    have e : gs_few (gs_liv s) f (max p r1) c = c := by
      cases f with
      | zero => rfl
      | succ f => unfold gs_few; rw [if_pos (by omega)]
    rw [e] at hk
    refine sx_go m73 60 rfl (fun VV CC hV hC => ?_)
    exact ⟨fun _ => hk, fun c1 => absurd (nI_le (show 20 ≤ p by omega) (by omega)) c1⟩
  | r + 1, p, r1, c, f, x, hp, hr, hx, hf, hk => by
    have eN := gs_N_eq hn hn10
    have hcmp : nI p ≤ x ↔ p < r1 := by
      rw [hx]
      rcases Nat.eq_zero_or_pos r1 with rfl | h
      · refine ⟨fun q => ?_, fun q => absurd q (Nat.not_lt_zero p)⟩
        have := Int32.le_trans (nI_pos' (n := p) (by omega)) q
        exact absurd this (by decide +kernel)
      · rw [gs_m1 (by omega), nI_leI (by omega) (by omega)]; omega
    have stay : max (p + 1) r1 = max p r1 → sx_V 73 (d + 2) 0 0 K 6 [(0, .ref 15), (1, .int (nI c)), (2, .int x), (3, .int (nI p + nI 1))] [] I (sx_run rw m ln) := by
      intro h
      have := v1_fewest hb hn hn10 r (p + 1) r1 c f x (by omega) hr hx (by omega) (by rw [h]; exact hk)
      rw [nI_succ p] at this
      exact this
    have skip : ¬ p < r1 → gs_liv s p = false → sx_V 73 (d + 2) 0 0 K 6 [(0, .ref 15), (1, .int (nI c)), (2, .int x), (3, .int (nI p + nI 1))] [] I (sx_run rw m ln) := by
      intro h1 h2
      rw [show max p r1 = p by omega] at hk hf
      cases f with
      | zero => omega
      | succ f =>
        unfold gs_few at hk
        rw [if_neg (by omega), h2] at hk
        have := v1_fewest hb hn hn10 r (p + 1) r1 c f x (by omega) hr hx (by omega) (by rw [show max (p + 1) r1 = p + 1 by omega]; exact hk)
        rw [nI_succ p] at this
        exact this
    refine sx_go m73 60 rfl (fun VV CC hV hC => ?_)
    refine ⟨fun (c1 : nI 20 ≤ nI p) => absurd c1 (nI_ge (by omega) (by omega)), fun _ => hC _ _ _ _ _ (c_owner_19 hb hn hn10 ⟨fun (c2 : nI p ≤ x) => hV _ _ _ _ _ _ _ (stay (by have := hcmp.mp c2; omega)), fun (c2 : ¬ nI p ≤ x) => ⟨fun (c3 : gs_on (gs_whoV s n (nI p)) = -1000000005) => hV _ _ _ _ _ _ _ (skip (fun h => c2 (hcmp.mpr h)) ?_), fun (c3 : ¬ gs_on (gs_whoV s n (nI p)) = -1000000005) => ?_⟩⟩)⟩
    · rw [gs_on_none hn10] at c3
      refine decide_eq_false (fun h => ?_)
      rw [eN] at h
      exact c3 h.1
    · rw [gs_on_none hn10] at c3
      have c4 : gs_who s n (nI p) < n := Decidable.not_not.mp c3
      have c5 : ¬ p < r1 := fun h => c2 (hcmp.mpr h)
      refine ⟨gs_who s n (nI p), ⟨gs_on_some hn10 c4, by omega⟩, hC _ _ _ _ _ (c_lives1 ?_)⟩
      rw [gb_kind_19 hb (by omega)]
      refine ⟨fun (c6 : ¬ gs_lives (s (12 + 5 * gs_who s n (nI p) + 0)) = 0) => hV _ _ _ _ _ _ _ (skip c5 ?_), fun (c6 : gs_lives (s (12 + 5 * gs_who s n (nI p) + 0)) = 0) => hV _ _ _ _ _ _ _ ?_⟩
      · refine decide_eq_false (fun h => ?_)
        rw [eN] at h
        exact c6 h.2
      · have hl : gs_liv s p = true := by
          refine decide_eq_true ?_
          rw [eN]
          exact ⟨c4, c6⟩
        rw [show max p r1 = p by omega] at hk hf
        cases f with
        | zero => omega
        | succ f =>
          unfold gs_few at hk
          rw [if_neg (by omega), hl] at hk
          have := v1_fewest hb hn hn10 r (p + 1) (p + 5) (c + 1) f (nI p + nI 2 + nI 2) (by omega) (by omega) (by rw [nI_add, nI_add, gs_m1 (by omega)]; congr 1) (by omega) (by rw [show max (p + 1) (p + 5) = p + 5 by omega]; exact hk)
          rw [nI_succ p, nI_succ c] at this
          exact this
theorem c1_fewest (hb : gb 19 s I) (hi : gs_inv s) (hk : K (some (.int (gs_fewest s))) I (sx_run rw m ln)) : sx_C 73 (d + 2) [.ref 15] I (sx_run rw m ln) K := by
  obtain ⟨⟨n, hn, hn10⟩, -⟩ := id hi
  refine sx_enter (by decide +kernel) (Nat.le_of_ble_eq_true rfl) (sx_go m73 60 rfl (fun VV CC hV hC => hV _ _ _ _ _ _ _ ?_))
  exact v1_fewest (d := d) hb hn hn10 20 0 0 0 20 (-1) (by omega) (by omega) (by decide +kernel) (by omega) hk
end
