/-! ===== the class: what will be ===== -/
theorem gs_plain_nat {s : Nat → Int32} (hi : gs_inv s) {g : Nat} (hg : g < 10) : ∃ c, gs_plain s g = nI c ∧ c ≤ 99 := by
  unfold gs_plain
  split
  · obtain ⟨w, ew, hw⟩ := (hi.2 g hg).2.2.1
    rw [ew, pk_div (by omega) (by omega) (by omega), pk_sub (by omega)]
    exact ⟨60 - w / 2, rfl, by omega⟩
  · exact gs_wi_ok _
theorem gs_looks_nat {s : Nat → Int32} (hi : gs_inv s) {t0 : Nat} (hnt : s 2 = nI t0) (ht0 : t0 < 2 ^ 31) {g : Nat} (hg : g < 10) : ∃ c, gs_looks s g = nI c ∧ c ≤ 222 := by
  obtain ⟨c, hc, hc9⟩ := gs_plain_nat hi hg
  unfold gs_looks gs_lk
  rw [hc, hnt]
  split
  · exact ⟨c + 12, nI_add _ _, by omega⟩
  · split
    · exact ⟨99, rfl, by omega⟩
    · split
      · exact ⟨2 * (c + 12), by rw [nI_add, pk_mul], by omega⟩
      · split
        · exact ⟨99, rfl, by omega⟩
        · split
          · exact ⟨c + 20 * (t0 % 2), by rw [pk_rem ht0 (by omega) (by omega), pk_mul, nI_add], by omega⟩
          · exact ⟨c, rfl, by omega⟩
theorem gs_cnt_nat {s : Nat → Int32} (hi : gs_inv s) {t0 : Nat} (hnt : s 2 = nI t0) (ht0 : t0 < 2 ^ 31) : ∀ n, n ≤ 10 → ∃ c, gs_sum (gs_cntF s) n = nI c ∧ c ≤ 222 * n
  | 0, _ => ⟨0, rfl, by omega⟩
  | n + 1, hn => by
    obtain ⟨c, h1, h2⟩ := gs_cnt_nat hi hnt ht0 n (by omega)
    have : ∃ x, gs_cntF s n = nI x ∧ x ≤ 222 := by
      unfold gs_cntF
      split
      · exact gs_looks_nat hi hnt ht0 (by omega)
      · exact ⟨0, rfl, by omega⟩
    obtain ⟨x, h3, h4⟩ := this
    exact ⟨c + x, by rw [gs_sum, h1, h3, nI_add], by omega⟩
theorem gs_cnt_nn {s : Nat → Int32} (hi : gs_inv s) {t0 : Nat} (hnt : s 2 = nI t0) (ht0 : t0 < 2 ^ 31) : 0 ≤ gs_cnt s := by
  obtain ⟨c, h1, h2⟩ := gs_cnt_nat hi hnt ht0 (gs_N s) hi.N
  have := hi.N
  unfold gs_cnt
  show 0 ≤ gs_sum (gs_cntF s) (gs_N s)
  rw [h1]
  exact nI_pos' (by omega)
theorem gs_best_k {b0 : Int32} {f : Nat → Int32} {n : Nat} (hf : ∀ p, p < n → 0 ≤ f p) : ∀ k, 1 ≤ k → k ≤ n → ∃ p, p < k ∧ (gs_best b0 nI f k).1 = nI p
  | 0, h, _ => absurd h (by omega)
  | k + 1, _, hk => by
    by_cases c : (gs_best b0 nI f k).2 < f k
    · rw [gs_best_t c rfl]; exact ⟨k, by omega, rfl⟩
    · rw [gs_best_f c]
      rcases Nat.eq_zero_or_pos k with rfl | h
      · exfalso
        have h2 : (gs_best b0 nI f 0).2 = -1 := rfl
        rw [h2] at c
        have h3 := Int32.le_trans (hf 0 (by omega)) (Int32.not_lt.mp c)
        exact absurd h3 (by decide +kernel)
      · obtain ⟨p, h1, h2⟩ := gs_best_k hf k h (by omega)
        exact ⟨p, by omega, h2⟩
theorem nI_none {p : Nat} (h : p < 2 ^ 31) : ¬ nI p = -1000000005 := by
  intro q
  have := nI_pos (n := p) h
  rw [q] at this
  exact this (by decide +kernel)
section
variable {d m : Nat} {I : sx_I} {rw : Nat → Nat → Option Nat} {ln : Nat → Nat} {K : sx_K} {s : Nat → Int32}
theorem c1_behind {t0 : Nat} {v w : Int32} (hb : gb 19 s I) (hi : gs_inv s) (htx : gb_tx I (rw 19) m ln s) (hnt : s 2 = nI t0) (ht0 : t0 ≤ 9999) (hk : ∀ I' rw', gb_fr 37 I I' → gb_rw 37 rw rw' → K (some (.int (gs_behind s v w))) I' (sx_run rw' m ln)) : sx_C 74 (d + 7) [.ref 15, .int v, .int w] I (sx_run rw m ln) K := by
  obtain ⟨⟨n, hn, hn10⟩, -⟩ := id hi
  generalize e : gs_behind s v w = r at hk
  unfold gs_behind at e
  have bad : (gs_in v 0 (nI 100) = 0 ∨ w < 0 ∨ (nI 3 < w ∧ gs_in (w - nI 4) 0 (s 0 - nI 1) = 0)) → K (some (.int (-1000000001))) I (sx_run rw m ln) := by
    intro h
    rw [if_pos h] at e
    exact sx_kk e (hk I rw (gb_fr.rf _ _) (gb_rw.rf _ _))
  have ex : ∀ c : Nat, nI 3 < nI c → c < 2 ^ 31 → ¬ c - 4 < n → gs_in (nI c - nI 4) 0 (s 0 - nI 1) = 0 := by
    intro c h hc h2
    rw [nI_ltI (by omega) hc] at h
    refine Decidable.byContradiction (fun q => ?_)
    rw [pk_sub (by omega)] at q
    obtain ⟨i, h3, h4⟩ := gs_guard hn hn10 q
    have := (nI_eq (by omega) (by omega)).mp h3
    omega
  refine sx_enter (by decide +kernel) (Nat.le_of_ble_eq_true rfl) (sx_go m74 100 rfl (fun VV CC hV hC => ?_))
  refine hC _ _ _ _ _ (c_isWithin ⟨fun (c1 : gs_in v (nI 0) (nI 100) = 0) => bad (Or.inl c1), fun (c1 : ¬ gs_in v (nI 0) (nI 100) = 0) => hC _ _ _ _ _ (c_isWithin ⟨fun (c2 : ¬ gs_in w (nI 0) (nI 3 + I 19 1) = 0) => ?_, fun (c2 : gs_in w (nI 0) (nI 3 + I 19 1) = 0) => bad ?_⟩)⟩)
  · rw [hb.1.1, hn, nI_add] at c2
    obtain ⟨j, rfl, -, hj⟩ := gs_in_nat (a := 0) (by omega) c2 (by decide)
    obtain ⟨c, rfl, -, hc⟩ := gs_in_nat (a := 0) (by omega) c1 (by decide)
    have ok : ¬ (gs_in (nI c) 0 (nI 100) = 0 ∨ nI j < 0 ∨ (nI 3 < nI j ∧ gs_in (nI j - nI 4) 0 (s 0 - nI 1) = 0)) := by
      rintro (h | h | h)
      · exact c1 h
      · exact nI_pos (by omega) h
      · have h1 := h.1
        rw [nI_ltI (by omega) (by omega)] at h1
        have h2 := h.2
        rw [pk_sub (by omega), hn, pk_sub (by omega)] at h2
        exact gs_in_c (by omega) (by omega) h2
    rw [if_neg ok, nI_clamp (by omega), nI_clamp (by omega)] at e
    refine hC _ _ _ _ _ (c_become_37_19 hb htx.ro (fun I1 f1 b1 => hC _ _ _ _ _ (c_behind1 (t0 := t0) rfl (by omega) b1 hi (gb_tx.cp (rw := rw) (S := 19) 37 (htx.lo (f1.hi (by omega)) (gs_lo.rf s))) hnt (by omega) (fun I2 f2 b2 => ?_))))
    have rd : ∀ x, x = r → K (some (.int x)) I2 (sx_run (gb_cp rw 37 19 14) m ln) := fun x h => by rw [h]; exact hk I2 _ (f1.tr f2) (gb_rw.cp 37 19 rw)
    refine ⟨fun (c3 : nI 2 < nI j) => ⟨fun (c4 : ¬ nI j = nI 3) => ?_, fun (c4 : nI j = nI 3) => rd _ ?_⟩, fun (c3 : ¬ nI 2 < nI j) => ?_⟩
    · rw [nI_ltI (by omega) (by omega)] at c3
      rw [nI_eq (by omega) (by omega)] at c4
      rw [if_neg (nI_nlt (by omega) (by omega)), if_neg (by rw [nI_eq (by omega) (by omega)]; exact c4), pk_sub (by omega), nI_clamp (by omega)] at e
      exact ⟨j - 4, ⟨pk_sub (by omega), by omega⟩, rd _ (by rw [gb_doubt_37 b2 (by omega)]; exact e)⟩
    · rw [if_neg (by rw [c4]; decide +kernel), if_pos c4] at e; exact e
    · rw [nI_ltI (by omega) (by omega)] at c3
      rw [if_pos (nI_lt (by omega) (by omega))] at e
      exact ⟨j, ⟨rfl, by omega⟩, rd _ (by rw [gb_toll_37 b2 (by omega)]; exact e)⟩
  · rw [hb.1.1, hn, nI_add] at c2
    by_cases h0 : w < 0
    · exact Or.inr (Or.inl h0)
    · obtain ⟨j, rfl, hj⟩ := gs_nat h0
      have h3 : 3 + n < j := by
        refine Nat.lt_of_not_le (fun h => ?_)
        exact gs_in_c h (by omega) c2
      exact Or.inr (Or.inr ⟨nI_lt (by omega) hj, ex j (nI_lt (by omega) hj) hj (by omega)⟩)
theorem c1_bluff {t0 : Nat} (hb : gb 19 s I) (hi : gs_inv s) (htx : gb_tx I (rw 19) m ln s) (hnt : s 2 = nI t0) (ht0 : t0 ≤ 9999) (hk : ∀ I' rw', gb_fr 37 I I' → gb_rw 37 rw rw' → K (some (.int (gs_bluff s))) I' (sx_run rw' m ln)) : sx_C 75 (d + 7) [.ref 15] I (sx_run rw m ln) K := by
  unfold gs_bluff at hk
  refine sx_enter (by decide +kernel) (Nat.le_of_ble_eq_true rfl) (sx_go m75 100 rfl (fun VV CC hV hC => ?_))
  refine hC _ _ _ _ _ (c_become_37_19 hb htx.ro (fun I1 f1 b1 => hC _ _ _ _ _ (c_first (t0 := t0) rfl (by omega) b1 hi (gb_tx.cp (rw := rw) (S := 19) 37 (htx.lo (f1.hi (by omega)) (gs_lo.rf s))) hnt (by omega) (fun I2 f2 => ?_))))
  have hk := hk I2 _ (f1.tr f2) (gb_rw.cp 37 19 rw)
  unfold gs_firstRaid
  by_cases h : gs_fst (fun i => gs_rd (gs_many i s)) 200 < 200
  · rw [if_pos h] at hk ⊢
    exact ⟨fun _ => hk, fun (c1 : nI (gs_fst (fun i => gs_rd (gs_many i s)) 200 + 1) = 0) => absurd c1 (nI_ne0 (by omega) (by omega))⟩
  · rw [if_neg h] at hk ⊢
    exact ⟨fun (c1 : ¬ nI 0 = 0) => absurd rfl c1, fun _ => hk⟩
theorem v1_washed {n t0 c : Nat} {w : Int32} (hc : c ≤ 60) (hb : gb 19 s I) (hi : gs_inv s) (htx : gb_tx I (rw 19) m ln s) (hn : s 0 = nI n) (hn10 : n ≤ 10) (hnt : s 2 = nI t0) (ht0 : t0 ≤ 9999) (hf : ∀ p, p < n → 0 ≤ gs_waF s c p)
    (hk : ∀ I' rw', gb_fr 37 I I' → gb_rw 37 rw rw' → K (some (.int (if n = 0 then -1000000005 else if w = 0 then (gs_best (-1) nI (gs_waF s c) n).1 else (gs_best (-1) nI (gs_waF s c) n).2))) I' (sx_run rw' m ln)) :
    ∀ (r k : Nat) (I' : sx_I), k + r = n → gb_fr 37 I I' → ∀ rw', gb_rw 37 rw rw' → sx_V 76 (d + 7) 0 0 K 32 [(0, .ref 15), (1, .int (nI c)), (2, .int w), (3, .int (if k = 0 then -1000000005 else (gs_best (-1) nI (gs_waF s c) k).1)), (4, .int (if k = 0 then -1000000005 else (gs_best (-1) nI (gs_waF s c) k).2)), (5, .int (nI k))] [] I' (sx_run rw' m ln) := by
  refine sx_for n (fun I' h rw' hr => ?_) (fun k I' hkc h ih rw' hr => ?_)
  · have hb' := h.gb hb (by omega) (by omega)
    have hk := hk I' rw' h hr
    refine sx_go m76 100 rfl (fun VV CC hV hC => ?_)
    refine ⟨fun _ => ⟨fun (c2 : ¬ w = 0) => ?_, fun (c2 : w = 0) => ?_⟩, fun (c1 : ¬ I' 19 1 ≤ nI n) => ?_⟩
    · rw [if_neg c2] at hk; exact hk
    · rw [if_pos c2] at hk; exact hk
    · exfalso; rw [hb'.1.1, hn] at c1; exact c1 (Int32.le_refl _)
  · have hb' := h.gb hb (by omega) (by omega)
    have l1 : gs_lo s (gs_set s k 2 (nI 0)) := gs_lo.set _ k 2 _ (by omega) (by omega)
    have i1 : gs_inv (gs_set s k 2 (nI 0)) := hi.set (by omega) (by omega) (by omega) (fun _ => ⟨0, rfl, by omega⟩) (by omega) (by omega)
    have tx1 : ∀ (I1 : sx_I), gb_fr 37 I' I1 → ∀ (f : Nat → Int32), ∀ a, 200 ≤ a → (a - 200) % 3 ≠ 2 → (sx_up I1 40 f) a = I a := fun I1 f1 f a ha hc => by rw [sx_up_ne (by omega), f1 a (by omega) (by omega)]; exact h a (by omega) (by omega)
    refine sx_go m76 100 rfl (fun VV CC hV hC => ?_)
    refine ⟨fun (c1 : I' 19 1 ≤ nI k) => ?_, fun _ => hC _ _ _ _ _ (c_become_37_19 hb' (by rw [hr 19 (by decide)]; exact htx.ro) (fun I1 f1 b1 => ⟨k, ⟨rfl, by omega⟩, hC _ _ _ _ _ (c_behind1 (t0 := t0) (s := gs_set s k 2 (nI 0)) rfl (by omega) (b1.set (w := 2) (by omega) (by omega) (nI 0) htx.tn) i1 (gb_tx.cp (rw := rw') (S := 19) 37 (by rw [hr 19 (by decide)]; exact htx.lo (tx1 I1 f1 _) l1)) ?_ (by omega) (fun I2 f2 b2 => ?_))⟩))⟩
    · exfalso; rw [hb'.1.1, hn] at c1; exact nI_ge hkc (by omega) c1
    · unfold gs_set; rw [pk_un (by omega)]; exact hnt
    · have f3 : gb_fr 37 I I2 := ((h.tr f1).tr (gb_fr.up I1 40 _ (by omega) (by omega))).tr f2
      have hI := ih I2 f3 _ (hr.tr (gb_rw.cp 37 19 rw'))
      rw [if_neg (by omega), if_neg (by omega), nI_succ k] at hI
      have ev : gs_cnt (gs_many c (gs_set s k 2 (nI 0))) = gs_waF s c k := rfl
      rw [ev]
      have yes : (gs_best (-1) nI (gs_waF s c) k).2 < gs_waF s c k → sx_V 76 (d + 7) 0 0 K 32 [(0, .ref 15), (1, .int (nI c)), (2, .int w), (3, .int (nI k)), (4, .int (gs_waF s c k)), (5, .int (nI k + nI 1))] [] I2 (sx_run (gb_cp rw' 37 19 14) m ln) := by
        intro q
        rw [gs_best_t q rfl] at hI
        exact hI
      by_cases k0 : k = 0
      · subst k0
        have q0 : (gs_best (-1) nI (gs_waF s c) 0).2 < gs_waF s c 0 := Int32.lt_of_lt_of_le (by show (-1 : Int32) < 0; decide +kernel) (hf 0 (by omega))
        refine ⟨fun (c1 : gs_waF s c 0 ≤ (if 0 = 0 then (-1000000005 : Int32) else _)) => ?_, fun _ => hV _ _ _ _ _ _ _ (yes q0)⟩
        rw [if_pos rfl] at c1
        exact absurd (Int32.le_trans (hf 0 (by omega)) c1) (by decide +kernel)
      · rw [if_neg k0, if_neg k0]
        refine ⟨fun (c2 : gs_waF s c k ≤ (gs_best (-1) nI (gs_waF s c) k).2) => hV _ _ _ _ _ _ _ ?_, fun (c2 : ¬ gs_waF s c k ≤ (gs_best (-1) nI (gs_waF s c) k).2) => hV _ _ _ _ _ _ _ (yes (Int32.not_le.mp c2))⟩
        rw [gs_best_f (Int32.not_lt.mpr c2)] at hI
        exact hI
theorem gs_N0 {n : Nat} {c : Nat} (hn : n ≤ 10) (hf : ∀ p, p < n → 0 ≤ gs_waF s c p) : (gs_best (-1) nI (gs_waF s c) n).1 < 0 ↔ n = 0 := by
  rcases Nat.eq_zero_or_pos n with rfl | h
  · exact ⟨fun _ => rfl, fun _ => by show (-1 : Int32) < 0; decide +kernel⟩
  · obtain ⟨p, hp, e⟩ := gs_best_k (b0 := -1) hf n h (Nat.le_refl _)
    rw [e]
    exact ⟨fun q => by
      rcases Nat.lt_or_ge p (2 ^ 31) with q2 | q2
      · exact absurd q (nI_pos q2)
      · omega, fun q => by omega⟩
theorem gs_set_2 {k w : Nat} {v : Int32} : gs_set s k w v 2 = s 2 := pk_un (by omega)
theorem gs_waF_nn {t0 c : Nat} (hi : gs_inv s) (hnt : s 2 = nI t0) (ht0 : t0 + c < 2 ^ 31) {p : Nat} : 0 ≤ gs_waF s c p := by
  have i1 : gs_inv (gs_set s p 2 (nI 0)) := hi.set (by omega) (by omega) (by omega) (fun _ => ⟨0, rfl, by omega⟩) (by omega) (by omega)
  exact gs_cnt_nn (i1.many c) (gs_many_2 (gs_set_2.trans hnt) c) ht0
theorem c1_washed {t0 : Nat} {v w : Int32} (hb : gb 19 s I) (hi : gs_inv s) (htx : gb_tx I (rw 19) m ln s) (hnt : s 2 = nI t0) (ht0 : t0 ≤ 9999) (hk : ∀ I' rw', gb_fr 37 I I' → gb_rw 37 rw rw' → K (some (.int (gs_washed s v w))) I' (sx_run rw' m ln)) : sx_C 76 (d + 7) [.ref 15, .int v, .int w] I (sx_run rw m ln) K := by
  obtain ⟨⟨n, hn, hn10⟩, -⟩ := id hi
  unfold gs_washed at hk
  rw [gs_N_eq hn hn10] at hk
  have bad : gs_ask v w = 0 → K (some (.int (-1000000001))) I (sx_run rw m ln) := fun h => sx_kk (if_pos h).symm (hk I rw (gb_fr.rf _ _) (gb_rw.rf _ _))
  refine sx_enter (by decide +kernel) (Nat.le_of_ble_eq_true rfl) (sx_go m76 100 rfl (fun VV CC hV hC => ?_))
  refine hC _ _ _ _ _ (c_isWithin ⟨fun (c1 : gs_in v (nI 1) (nI 60) = 0) => bad (if_neg (fun h => h.1 c1)), fun (c1 : ¬ gs_in v (nI 1) (nI 60) = 0) => hC _ _ _ _ _ (c_isWithin ⟨fun (c2 : ¬ gs_in w (nI 0) (nI 1) = 0) => hV _ _ _ _ _ _ _ ?_, fun (c2 : gs_in w (nI 0) (nI 1) = 0) => bad (if_neg (fun h => h.2 c2))⟩)⟩)
  have ok : ¬ gs_ask v w = 0 := by
    unfold gs_ask
    rw [if_pos ⟨c1, c2⟩]; decide +kernel
  obtain ⟨c, rfl, h1, h2⟩ := gs_in_nat (by decide) c1 (by decide)
  rw [if_neg ok, nI_clamp (by omega)] at hk
  refine v1_washed (d := d) h2 hb hi htx hn hn10 hnt ht0 (fun p _ => gs_waF_nn hi hnt (by omega)) (fun I' rw' h hr => ?_) n 0 I (by omega) (gb_fr.rf _ _) rw (gb_rw.rf _ _)
  have hk := hk I' rw' h hr
  by_cases q : n = 0
  · rw [if_pos ((gs_N0 hn10 (fun p _ => gs_waF_nn hi hnt (by omega))).mpr q)] at hk
    rw [if_pos q]; exact hk
  · rw [if_neg (fun h => q ((gs_N0 hn10 (fun p _ => gs_waF_nn hi hnt (by omega))).mp h))] at hk
    rw [if_neg q]; exact hk
theorem v1_becomes {n t0 c g : Nat} {w : Int32} (hg : g < 10) (hc : c ≤ 60) (hb : gb 19 s I) (hi : gs_inv s) (htx : gb_tx I (rw 19) m ln s) (hn : s 0 = nI n) (hn10 : n ≤ 10) (hnt : s 2 = nI t0) (ht0 : t0 ≤ 9999) (hf : ∀ p, p < 6 → 0 ≤ gs_beF s g c p)
    (hk : ∀ I' rw', gb_fr 37 I I' → gb_rw 37 rw rw' → K (some (.int (if w = 0 then (gs_best 0 nI (gs_beF s g c) 6).1 else (gs_best 0 nI (gs_beF s g c) 6).2))) I' (sx_run rw' m ln)) :
    ∀ (r k : Nat) (I' : sx_I), k + r = 6 → gb_fr 37 I I' → ∀ rw', gb_rw 37 rw rw' → sx_V 78 (d + 7) 0 0 K 41 [(0, .ref 15), (1, .int (nI g)), (2, .int (nI c)), (3, .int w), (4, .int (if k = 0 then -1000000005 else (gs_best 0 nI (gs_beF s g c) k).1)), (5, .int (if k = 0 then -1000000005 else (gs_best 0 nI (gs_beF s g c) k).2)), (6, .int (nI k))] [] I' (sx_run rw' m ln) := by
  refine sx_for 6 (fun I' h rw' hr => ?_) (fun k I' hkc h ih rw' hr => ?_)
  · have hk := hk I' rw' h hr
    refine sx_go m78 100 rfl (fun VV CC hV hC => ?_)
    refine ⟨fun _ => ⟨fun (c2 : ¬ w = 0) => ?_, fun (c2 : w = 0) => ?_⟩, fun (c1 : ¬ nI 6 ≤ nI 6) => absurd (Int32.le_refl _) c1⟩
    · rw [if_neg c2] at hk; exact sx_kk (if_neg (by decide)) hk
    · rw [if_pos c2] at hk; exact sx_kk (if_neg (by decide)) hk
  · have hb' := h.gb hb (by omega) (by omega)
    have l1 : gs_lo s (gs_set s g 0 (nI k)) := gs_lo.set _ g 0 _ (by omega) (by omega)
    have i1 : gs_inv (gs_set s g 0 (nI k)) := hi.set (by omega) (fun _ => ⟨k, rfl, by omega⟩) (by omega) (by omega) (by omega) (by omega)
    have tx1 : ∀ (I1 : sx_I), gb_fr 37 I' I1 → ∀ (f : Nat → Int32), ∀ a, 200 ≤ a → (a - 200) % 3 ≠ 2 → (sx_up I1 38 f) a = I a := fun I1 f1 f a ha hc => by rw [sx_up_ne (by omega), f1 a (by omega) (by omega)]; exact h a (by omega) (by omega)
    refine sx_go m78 100 rfl (fun VV CC hV hC => ?_)
    refine ⟨fun (c1 : nI 6 ≤ nI k) => absurd c1 (nI_ge hkc (by omega)), fun _ => hC _ _ _ _ _ (c_become_37_19 hb' (by rw [hr 19 (by decide)]; exact htx.ro) (fun I1 f1 b1 => ⟨g, ⟨rfl, by omega⟩, hC _ _ _ _ _ (c_behind1 (t0 := t0) (s := gs_set s g 0 (nI k)) rfl (by omega) (b1.set (w := 0) (by omega) (by omega) (nI k) htx.tn) i1 (gb_tx.cp (rw := rw') (S := 19) 37 (by rw [hr 19 (by decide)]; exact htx.lo (tx1 I1 f1 _) l1)) ?_ (by omega) (fun I2 f2 b2 => ?_))⟩))⟩
    · exact gs_set_2.trans hnt
    · have f3 : gb_fr 37 I I2 := ((h.tr f1).tr (gb_fr.up I1 38 _ (by omega) (by omega))).tr f2
      have hI := ih I2 f3 _ (hr.tr (gb_rw.cp 37 19 rw'))
      rw [if_neg (by omega), if_neg (by omega), nI_succ k] at hI
      have ev : gs_cnt (gs_many c (gs_set s g 0 (nI k))) = gs_beF s g c k := rfl
      rw [ev]
      have yes : (gs_best 0 nI (gs_beF s g c) k).2 < gs_beF s g c k → sx_V 78 (d + 7) 0 0 K 41 [(0, .ref 15), (1, .int (nI g)), (2, .int (nI c)), (3, .int w), (4, .int (nI k)), (5, .int (gs_beF s g c k)), (6, .int (nI k + nI 1))] [] I2 (sx_run (gb_cp rw' 37 19 14) m ln) := by
        intro q
        rw [gs_best_t q rfl] at hI
        exact hI
      by_cases k0 : k = 0
      · subst k0
        have q0 : (gs_best 0 nI (gs_beF s g c) 0).2 < gs_beF s g c 0 := Int32.lt_of_lt_of_le (by show (-1 : Int32) < 0; decide +kernel) (hf 0 (by omega))
        refine ⟨fun (c1 : gs_beF s g c 0 ≤ (if 0 = 0 then (-1000000005 : Int32) else _)) => ?_, fun _ => hV _ _ _ _ _ _ _ (yes q0)⟩
        rw [if_pos rfl] at c1
        exact absurd (Int32.le_trans (hf 0 (by omega)) c1) (by decide +kernel)
      · rw [if_neg k0, if_neg k0]
        refine ⟨fun (c2 : gs_beF s g c k ≤ (gs_best 0 nI (gs_beF s g c) k).2) => hV _ _ _ _ _ _ _ ?_, fun (c2 : ¬ gs_beF s g c k ≤ (gs_best 0 nI (gs_beF s g c) k).2) => hV _ _ _ _ _ _ _ (yes (Int32.not_le.mp c2))⟩
        rw [gs_best_f (Int32.not_lt.mpr c2)] at hI
        exact hI
theorem c1_becomes {t0 : Nat} {g v w : Int32} (hb : gb 19 s I) (hi : gs_inv s) (htx : gb_tx I (rw 19) m ln s) (hnt : s 2 = nI t0) (ht0 : t0 ≤ 9999) (hk : ∀ I' rw', gb_fr 37 I I' → gb_rw 37 rw rw' → K (some (.int (gs_becomes s g v w))) I' (sx_run rw' m ln)) : sx_C 78 (d + 7) [.ref 15, .int g, .int v, .int w] I (sx_run rw m ln) K := by
  obtain ⟨⟨n, hn, hn10⟩, -⟩ := id hi
  unfold gs_becomes at hk
  have bad : (gs_in g 0 (s 0 - nI 1) = 0 ∨ gs_ask v w = 0) → K (some (.int (-1000000001))) I (sx_run rw m ln) := fun h => sx_kk (if_pos h).symm (hk I rw (gb_fr.rf _ _) (gb_rw.rf _ _))
  refine sx_enter (by decide +kernel) (Nat.le_of_ble_eq_true rfl) (sx_go m78 100 rfl (fun VV CC hV hC => ?_))
  refine hC _ _ _ _ _ (c_isGuard1 hb.1.1 ⟨fun (c0 : gs_in g 0 (s 0 - nI 1) = 0) => bad (Or.inl c0), fun (c0 : ¬ gs_in g 0 (s 0 - nI 1) = 0) => hC _ _ _ _ _ (c_isWithin ⟨fun (c1 : gs_in v (nI 1) (nI 60) = 0) => bad (Or.inr (if_neg (fun h => h.1 c1))), fun (c1 : ¬ gs_in v (nI 1) (nI 60) = 0) => hC _ _ _ _ _ (c_isWithin ⟨fun (c2 : ¬ gs_in w (nI 0) (nI 1) = 0) => hV _ _ _ _ _ _ _ ?_, fun (c2 : gs_in w (nI 0) (nI 1) = 0) => bad (Or.inr (if_neg (fun h => h.2 c2)))⟩)⟩)⟩)
  have ok : ¬ gs_ask v w = 0 := by
    unfold gs_ask
    rw [if_pos ⟨c1, c2⟩]; decide +kernel
  obtain ⟨c, rfl, h1, h2⟩ := gs_in_nat (by decide) c1 (by decide)
  obtain ⟨j, rfl, hj⟩ := gs_guard hn hn10 c0
  rw [if_neg (fun h => h.elim c0 ok), nI_clamp (by omega), nI_clamp (by omega)] at hk
  refine v1_becomes (d := d) (by omega) h2 hb hi htx hn hn10 hnt ht0 (fun p hp => ?_) hk 6 0 I (by omega) (gb_fr.rf _ _) rw (gb_rw.rf _ _)
  have i1 : gs_inv (gs_set s j 0 (nI p)) := hi.set (by omega) (fun _ => ⟨p, rfl, by omega⟩) (by omega) (by omega) (by omega) (by omega)
  exact gs_cnt_nn (i1.many c) (gs_many_2 (gs_set_2.trans hnt) c) (by omega)
theorem gs_firstRaid0 {c : Nat} (hc : c ≤ 200) : gs_firstRaid s c = 0 ↔ gs_rc s c = 0 := by
  rw [gs_rc_0]
  unfold gs_firstRaid
  by_cases h : gs_fst (fun i => gs_rd (gs_many i s)) c < c
  · rw [if_pos h]
    refine ⟨fun q => absurd q (nI_ne0 (by omega) (by omega)), fun q => ?_⟩
    have := gs_fst_lt _ _ h
    rw [q _ h] at this
    exact absurd this (by decide)
  · rw [if_neg h]
    refine ⟨fun _ i hi => ?_, fun _ => rfl⟩
    cases e : gs_rd (gs_many i s) with
    | false => rfl
    | true =>
      exfalso
      obtain ⟨k, hk1, hk2⟩ := pk_least (fun i => i < c ∧ gs_rd (gs_many i s) = true) ⟨i, hi, e⟩
      have := gs_fst_at (fun i => gs_rd (gs_many i s)) c k hk1.1 (fun j hj => by
        cases e2 : gs_rd (gs_many j s) with
        | false => rfl
        | true => exact absurd ⟨by omega, e2⟩ (hk2 j hj)) hk1.2
      omega
theorem v1_needed {n t0 c : Nat} (hc : c ≤ 60) (hb : gb 19 s I) (hi : gs_inv s) (htx : gb_tx I (rw 19) m ln s) (hn : s 0 = nI n) (hn10 : n ≤ 10) (hnt : s 2 = nI t0) (ht0 : t0 ≤ 9999) (hk : ∀ I' rw', gb_fr 37 I I' → gb_rw 37 rw rw' → K (some (.int (if gs_fst (gs_neF s c) 20 < 20 then nI (gs_fst (gs_neF s c) 20) else -1000000005))) I' (sx_run rw' m ln)) :
    ∀ (r k : Nat) (I' : sx_I), k + r = 20 → (gb_fr 37 I I' ∧ ∀ i, i < k → gs_neF s c i = false) → ∀ rw', gb_rw 37 rw rw' → sx_V 77 (d + 7) 0 0 K 15 [(0, .ref 15), (1, .int (nI c)), (2, .int (nI k))] [] I' (sx_run rw' m ln) := by
  refine sx_for 20 (fun I' h rw' hr => ?_) (fun k I' hkc h ih rw' hr => ?_)
  · have hk := hk I' rw' h.1 hr
    rw [gs_fst_none _ _ h.2, if_neg (Nat.lt_irrefl _)] at hk
    refine sx_go m77 100 rfl (fun VV CC hV hC => ?_)
    exact ⟨0, ⟨rfl, by omega⟩, fun _ => hk, fun (c1 : ¬ sx_rom 0 0 < nI 20) => absurd (by decide +kernel) c1⟩
  · obtain ⟨h, hbef⟩ := h
    have hb' := h.gb hb (by omega) (by omega)
    have l1 : gs_lo s (upd s (3 + 0) (nI k)) := gs_lo.up _ 3 _ (by omega) (by omega)
    have i1 : gs_inv (upd s (3 + 0) (nI k)) := hi.up (by omega) (by omega) _
    have en : gs_neF s c k = decide (gs_rc (upd s (3 + 0) (nI k)) c = 0) := rfl
    have tx1 : ∀ (I1 : sx_I), gb_fr 37 I' I1 → ∀ (f : Nat → Int32), ∀ a, 200 ≤ a → (a - 200) % 3 ≠ 2 → (sx_up I1 43 f) a = I a := fun I1 f1 f a ha hc => by rw [sx_up_ne (by omega), f1 a (by omega) (by omega)]; exact h a (by omega) (by omega)
    refine sx_go m77 100 rfl (fun VV CC hV hC => ?_)
    refine ⟨0, ⟨rfl, by omega⟩, fun (c1 : sx_rom 0 0 < nI k) => ?_, fun _ => hC _ _ _ _ _ (c_become_37_19 hb' (by rw [hr 19 (by decide)]; exact htx.ro) (fun I1 f1 b1 => ⟨0, ⟨rfl, by omega⟩, hC _ _ _ _ _ (c_first (t0 := t0) (s := upd s (3 + 0) (nI k)) rfl (by omega) (b1.rule (w := 0) (by omega) (nI k) htx.tn) i1 (gb_tx.cp (rw := rw') (S := 19) 37 (by rw [hr 19 (by decide)]; exact htx.lo (tx1 I1 f1 _) l1)) ?_ (by omega) (fun I2 f2 => ⟨fun (c2 : ¬ gs_firstRaid (upd s (3 + 0) (nI k)) c = 0) => hV _ _ _ _ _ _ _ ?_, fun (c2 : gs_firstRaid (upd s (3 + 0) (nI k)) c = 0) => ?_⟩))⟩))⟩
    · exfalso
      have : nI 19 < nI k := c1
      rw [nI_ltI (by omega) (by omega)] at this; omega
    · rw [pk_un (by omega)]; exact hnt
    · have f3 : gb_fr 37 I I2 := ((h.tr f1).tr (gb_fr.up I1 43 _ (by omega) (by omega))).tr f2
      rw [gs_firstRaid0 (by omega)] at c2
      have := ih I2 ⟨f3, fun i hi => by
        rcases Nat.lt_or_ge i k with q | q
        · exact hbef i q
        · have : i = k := by omega
          subst this; rw [en]; exact decide_eq_false c2⟩ _ (hr.tr (gb_rw.cp 37 19 rw'))
      rw [nI_succ k] at this
      exact this
    · have f3 : gb_fr 37 I I2 := ((h.tr f1).tr (gb_fr.up I1 43 _ (by omega) (by omega))).tr f2
      rw [gs_firstRaid0 (by omega)] at c2
      have hk := hk I2 _ f3 (hr.tr (gb_rw.cp 37 19 rw'))
      rw [gs_fst_at _ 20 k hkc hbef (by rw [en]; exact decide_eq_true c2), if_pos hkc] at hk
      exact hk
theorem c1_needed {t0 : Nat} {v : Int32} (hb : gb 19 s I) (hi : gs_inv s) (htx : gb_tx I (rw 19) m ln s) (hnt : s 2 = nI t0) (ht0 : t0 ≤ 9999) (hk : ∀ I' rw', gb_fr 37 I I' → gb_rw 37 rw rw' → K (some (.int (gs_needed s v))) I' (sx_run rw' m ln)) : sx_C 77 (d + 7) [.ref 15, .int v] I (sx_run rw m ln) K := by
  obtain ⟨⟨n, hn, hn10⟩, -⟩ := id hi
  unfold gs_needed at hk
  refine sx_enter (by decide +kernel) (Nat.le_of_ble_eq_true rfl) (sx_go m77 100 rfl (fun VV CC hV hC => ?_))
  refine hC _ _ _ _ _ (c_isWithin ⟨fun (c1 : ¬ gs_in v (nI 1) (nI 60) = 0) => hV _ _ _ _ _ _ _ ?_, fun (c1 : gs_in v (nI 1) (nI 60) = 0) => sx_kk (if_pos c1).symm (hk I rw (gb_fr.rf _ _) (gb_rw.rf _ _))⟩)
  obtain ⟨c, rfl, h1, h2⟩ := gs_in_nat (by decide) c1 (by decide)
  rw [if_neg c1, nI_clamp (by omega)] at hk
  exact v1_needed (d := d) h2 hb hi htx hn hn10 hnt ht0 hk 20 0 I (by omega) ⟨gb_fr.rf _ _, fun i hi => absurd hi (Nat.not_lt_zero i)⟩ rw (gb_rw.rf _ _)
end
