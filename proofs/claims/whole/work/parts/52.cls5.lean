/-! ===== the class: what is read off a border ===== -/
def gb_sight (s : Nat → Int32) (g : Nat) (p : Int32) : Int32 := if s 3 < gs_off (s (12 + 5 * g + 1)) p then nI 0 else nI 1
def gb_near (s : Nat → Int32) (g : Nat) (p : Int32) : Int32 := if nI 2 < gs_off (s (12 + 5 * g + 1)) p then nI 0 else nI 1
theorem gs_on_t {t : Nat} (h : t < 2 ^ 31) : gs_on (nI t) = nI t := if_neg (nI_pos h)
theorem gs_on_m : gs_on (-1) = -1000000005 := by decide +kernel
section
variable {d m : Nat} {I : sx_I} {rw : Nat → Nat → Option Nat} {ln : Nat → Nat} {K : sx_K} {s : Nat → Int32}
theorem gs_inv.post (h : gs_inv s) {k : Nat} (hk : k < 10) : ∃ p, s (12 + 5 * k + 1) = nI p ∧ p < 20 := (h.2 k hk).2.1
theorem c_draw_19 (hb : gb 19 s I) (hT : gs_tn s) (hk : ∀ I', gb_fr 19 I I' → gb 19 (gs_drawS s) I' → K (some (.int (gs_dv (gs_draw (s 11))))) I' (sx_run rw m ln)) : sx_C 9 (d + 1) [.ref 19] I (sx_run rw m ln) K := by
  have h := hk _ (gb_fr.up I 19 (upd (I 19) 10 (gs_draw (s 11))) (by omega) (by omega)) (hb.z _ hT)
  rw [← hb.1.2.2.1] at h
  refine sx_enter (by decide +kernel) (Nat.le_of_ble_eq_true rfl) (sx_go m9 60 rfl (fun VV CC hV hC => ?_))
  refine sx_kk ?_ h
  rw [sx_up_same]
  show gs_dv (upd (I 19) 10 (gs_draw (I 19 10)) 10) = _
  rw [pk_us]
theorem v_owner_19 {n : Nat} {p : Int32} (hb : gb 19 s I) (hn : s 0 = nI n) (hn10 : n ≤ 10) (hk : K (some (.int (gs_on (gs_whoV s n p)))) I (sx_run rw m ln)) :
    ∀ (r k : Nat) (I' : sx_I), k + r = n → (I' = I ∧ ∀ i, i < k → ¬ s (12 + 5 * i + 1) = p) → sx_V 10 (d + 1) 0 0 K 2 [(0, .ref 19), (1, .int p), (2, .int (nI k))] [] I' (sx_run rw m ln) := by
  refine sx_for n (fun I' h => ?_) (fun k I' hkc h ih => ?_)
  · obtain ⟨rfl, hbef⟩ := h
    have e : gs_whoV s n p = -1 := by
      unfold gs_whoV
      rw [show gs_who s n p = n from gs_fst_none _ _ (fun i hi => decide_eq_false (hbef i hi)), if_neg (Nat.lt_irrefl _)]
    rw [e, gs_on_m] at hk
    refine sx_go m10 60 rfl (fun VV CC hV hC => ?_)
    refine ⟨fun _ => hk, fun (c1 : ¬ I' 19 1 ≤ nI n) => ?_⟩
    exfalso; rw [hb.1.1, hn] at c1; exact c1 (Int32.le_refl _)
  · obtain ⟨rfl, hbef⟩ := h
    refine sx_go m10 60 rfl (fun VV CC hV hC => ?_)
    refine ⟨fun (c1 : I' 19 1 ≤ nI k) => ?_, fun _ => ⟨k, ⟨rfl, by omega⟩, fun (c2 : ¬ I' 21 k = p) => hV _ _ _ _ _ _ _ ?_, fun (c2 : I' 21 k = p) => ?_⟩⟩
    · exfalso; rw [hb.1.1, hn] at c1; exact nI_ge hkc (by omega) c1
    · rw [gb_post_19 hb (by omega)] at c2
      have := ih I' ⟨rfl, fun i hi => by
        rcases Nat.lt_or_ge i k with q | q
        · exact hbef i q
        · have : i = k := by omega
          subst this; exact c2⟩
      rw [nI_succ] at this
      exact this
    · rw [gb_post_19 hb (by omega)] at c2
      have e : gs_who s n p = k := gs_fst_at _ _ _ hkc (fun i hi => decide_eq_false (hbef i hi)) (decide_eq_true c2)
      have e2 : gs_whoV s n p = nI k := by unfold gs_whoV; rw [e, if_pos hkc]
      rw [e2, gs_on_t (by omega)] at hk
      exact hk
theorem c_owner_19 {n : Nat} {p : Int32} (hb : gb 19 s I) (hn : s 0 = nI n) (hn10 : n ≤ 10) (hk : K (some (.int (gs_on (gs_whoV s n p)))) I (sx_run rw m ln)) : sx_C 10 (d + 1) [.ref 19, .int p] I (sx_run rw m ln) K := by
  refine sx_enter (by decide +kernel) (Nat.le_of_ble_eq_true rfl) (sx_go m10 60 rfl (fun VV CC hV hC => hV _ _ _ _ _ _ _ ?_))
  exact v_owner_19 (d := d) hb hn hn10 hk n 0 I (by omega) ⟨rfl, fun i hi => absurd hi (Nat.not_lt_zero i)⟩
theorem c_sight_19 {g q : Nat} {x p : Int32} (hx : x = nI g) (hg : g < 10) (hp : p = nI q) (hq : q < 20) (hb : gb 19 s I) (hi : gs_inv s) (hk : K (some (.int (gb_sight s g p))) I (sx_run rw m ln)) : sx_C 11 (d + 2) [.ref 19, .int x, .int p] I (sx_run rw m ln) K := by
  obtain ⟨w, ew, hw⟩ := hi.post hg
  subst hx
  unfold gb_sight at hk
  refine sx_enter (by decide +kernel) (Nat.le_of_ble_eq_true rfl) (sx_go m11 60 rfl (fun VV CC hV hC => ?_))
  refine ⟨g, ⟨rfl, hg⟩, hC _ _ _ _ _ (c_abs ⟨0, ⟨rfl, by omega⟩, ?_⟩)⟩
  rw [gb_post_19 hb hg, gb_rule_19 hb (by omega), gs_abs_off ew hp (by omega) (by omega)]
  refine ⟨fun (c1 : s (3 + 0) < gs_off (s (12 + 5 * g + 1)) p) => ?_, fun (c1 : ¬ s (3 + 0) < gs_off (s (12 + 5 * g + 1)) p) => ?_⟩
  · rw [if_pos c1] at hk; exact ⟨Or.inl rfl, hk⟩
  · rw [if_neg c1] at hk; exact ⟨Or.inr rfl, hk⟩
theorem c_near_19 {g q : Nat} {x p : Int32} (hx : x = nI g) (hg : g < 10) (hp : p = nI q) (hq : q < 20) (hb : gb 19 s I) (hi : gs_inv s) (hk : K (some (.int (gb_near s g p))) I (sx_run rw m ln)) : sx_C 12 (d + 2) [.ref 19, .int x, .int p] I (sx_run rw m ln) K := by
  obtain ⟨w, ew, hw⟩ := hi.post hg
  subst hx
  unfold gb_near at hk
  refine sx_enter (by decide +kernel) (Nat.le_of_ble_eq_true rfl) (sx_go m12 60 rfl (fun VV CC hV hC => ?_))
  refine ⟨g, ⟨rfl, hg⟩, hC _ _ _ _ _ (c_abs ?_)⟩
  rw [gb_post_19 hb hg, gs_abs_off ew hp (by omega) (by omega)]
  refine ⟨fun (c1 : nI 2 < gs_off (s (12 + 5 * g + 1)) p) => ?_, fun (c1 : ¬ nI 2 < gs_off (s (12 + 5 * g + 1)) p) => ?_⟩
  · rw [if_pos c1] at hk; exact ⟨Or.inl rfl, hk⟩
  · rw [if_neg c1] at hk; exact ⟨Or.inr rfl, hk⟩
theorem c_textFor_19 {w T : Nat} {x : Int32} (hx : x = nI w) (hw : w < 3) (hb : gb 19 s I) (hT : s 1 = nI T) (hT14 : T ≤ 14) (hok : ∀ t, t < T → gb_tx1 I (rw 19) m ln s t) (h0 : gs_counts s (nI w) T = -1 → K (some .null) I (sx_run rw m ln)) (h1 : ∀ t ta, t < T → gs_counts s (nI w) T = nI t → rw 19 t = some ta → K (some (.ref ta)) I (sx_run rw m ln)) : sx_C 231 (d + 2) [.ref 119, .int x] I (sx_run rw m ln) K := by
  subst hx
  have ecnt : I 27 w = gs_on (gs_counts s (nI w) T) := by rw [gb_cnt_19 hb hw, hT, nI_clamp (by omega)]
  have etx : I 119 1 = nI T := hb.1.2.2.2.trans hT
  refine sx_enter (by decide +kernel) (Nat.le_of_ble_eq_true rfl) (sx_go m231 60 rfl (fun VV CC hV hC => ?_))
  refine ⟨w, ⟨rfl, hw⟩, hC _ _ _ _ _ (c_isWithin ?_)⟩
  rcases gs_counts_lt s (nI w) T hT14 with e | ⟨t, ht, e⟩
  · have z : gs_in (I 27 w) (nI 0) (I 119 1 - nI 1) = 0 := by
      rw [ecnt, e, gs_on_m]
      exact if_neg (fun h => absurd h.1 (by decide +kernel))
    exact ⟨fun _ => h0 e, fun c => absurd z c⟩
  · have ev : I 27 w = nI t := by rw [ecnt, e, gs_on_t (by omega)]
    have z : ¬ gs_in (I 27 w) (nI 0) (I 119 1 - nI 1) = 0 := by
      rw [ev, etx, pk_sub (by omega)]
      exact gs_in_iff.mpr ⟨nI_le (by omega) (by omega), nI_le (by omega) (by omega)⟩
    obtain ⟨u, M, q1, -⟩ := hok t ht
    refine ⟨fun c => absurd c z, fun _ => ⟨t, ⟨ev, by omega⟩, fun b2 (e2 : rw 19 t = some b2) => h1 t b2 ht e e2, fun (e2 : rw 19 t = none) => ?_⟩⟩
    rw [q1] at e2; cases e2
theorem c_looksOf_19 {g t0 : Nat} {x : Int32} (hx : x = nI g) (hg : g < 10) (hb : gb 19 s I) (htx : gb_tx I (rw 19) m ln s) (hnt : s 2 = nI t0) (ht0 : t0 < 2 ^ 31) (hk : ∀ I', gb_k I I' → K (some (.int (gs_looks s g))) I' (sx_run rw m ln)) : sx_C 13 (d + 3) [.ref 19, .int x] I (sx_run rw m ln) K := by
  obtain ⟨T, hT, hT14, hok, -⟩ := htx
  subst hx
  have hpl : gs_plain s g = if gs_counts s 0 T < 0 then nI 60 - s (12 + 5 * g + 2) / nI 2 else gs_wi (gs_work (gs_nm3 (s (12 + 5 * g + 2)) (s (12 + 5 * g + 3)) (s (12 + 5 * g + 1)) (fun _ => 0)) s (gs_counts s 0 T).toNatClampNeg) (nI 99) := by
    unfold gs_plain; rw [hT, nI_clamp (by omega)]
  refine sx_enter (by decide +kernel) (Nat.le_of_ble_eq_true rfl) (sx_go m13 60 rfl (fun VV CC hV hC => ?_))
  refine hC _ _ _ _ _ (c_textFor_19 (w := 0) rfl (by omega) hb hT hT14 hok (fun e => ?_) (fun t ta ht e er => ?_))
  · have e : gs_counts s 0 T = -1 := e
    refine ⟨g, ⟨rfl, hg⟩, by decide +kernel, g, ⟨rfl, hg⟩, ?_⟩
    refine hC _ _ _ _ _ (c_looks1 (by rw [hb.1.2.1]; exact hnt) ht0 (sx_kk ?_ (hk _ (gb_k.rf I))))
    rw [gb_wear_19 hb hg, gb_kind_19 hb hg, hb.1.2.1]
    unfold gs_looks
    rw [hpl, e, if_pos (by decide +kernel)]
  · have e : gs_counts s 0 T = nI t := e
    have hkey := gs_counts_key s 0 T t hT14 ht e
    obtain ⟨hal, hsh⟩ := (hok t ht).obj (rw := rw) er
    refine ⟨g, ⟨rfl, hg⟩, g, ⟨rfl, hg⟩, g, ⟨rfl, hg⟩, ?_⟩
    rw [gb_wear_19 hb hg, gb_doubt_19 hb hg, gb_post_19 hb hg]
    refine sx_s_virt (cs := x13_49) rfl rfl rfl hal hsh ?_
    refine hC _ _ _ _ _ (c_valueOf (nm := gs_nm3 (s (12 + 5 * g + 2)) (s (12 + 5 * g + 3)) (s (12 + 5 * g + 1)) (fun _ => 0)) (hok t ht) er (fun n hn => ?_) (fun I2 hI2 => ?_))
    · rw [hkey] at hn
      rcases hn with ⟨-, rfl | rfl | rfl⟩ | ⟨q, -⟩ | ⟨q, -⟩
      · rfl
      · rfl
      · rfl
      · exact absurd q (by decide +kernel)
      · exact absurd q (by decide +kernel)
    · refine hC _ _ _ _ _ (c_held ⟨g, ⟨rfl, hg⟩, ?_⟩)
      have n1 : I2 20 = I 20 := hI2 20 (by omega)
      have n2 : I2 19 = I 19 := hI2 19 (by omega)
      refine hC _ _ _ _ _ (c_looks1 (by rw [n2, hb.1.2.1]; exact hnt) ht0 (sx_kk ?_ (hk _ hI2)))
      rw [n1, n2, gb_kind_19 hb hg, hb.1.2.1]
      unfold gs_looks
      rw [hpl, e, if_neg (nI_pos (by omega)), nI_clamp (by omega)]
theorem v_counted_19 {n t0 : Nat} (hb : gb 19 s I) (hn : s 0 = nI n) (hn10 : n ≤ 10) (htx : gb_tx I (rw 19) m ln s) (hnt : s 2 = nI t0) (ht0 : t0 < 2 ^ 31) (hk : ∀ I', gb_k I I' → K (some (.int (gs_sum (gs_cntF s) n))) I' (sx_run rw m ln)) :
    ∀ (r k : Nat) (I' : sx_I), k + r = n → gb_k I I' → sx_V 14 (d + 4) 0 0 K 4 [(0, .ref 19), (1, .int (gs_sum (gs_cntF s) k)), (2, .int (nI k))] [] I' (sx_run rw m ln) := by
  refine sx_for n (fun I' h => ?_) (fun k I' hkc h ih => ?_)
  · have hb := h.gb hb (by omega)
    refine sx_go m14 60 rfl (fun VV CC hV hC => ?_)
    refine ⟨fun _ => hk I' h, fun (c1 : ¬ I' 19 1 ≤ nI n) => ?_⟩
    exfalso; rw [hb.1.1, hn] at c1; exact c1 (Int32.le_refl _)
  · have hb := h.gb hb (by omega)
    have nxt : ∀ (I2 : sx_I) (v : Int32), gb_k I I2 → v = gs_sum (gs_cntF s) k + gs_cntF s k → sx_V 14 (d + 4) 0 0 K 4 [(0, .ref 19), (1, .int v), (2, .int (nI k + nI 1))] [] I2 (sx_run rw m ln) := by
      intro I2 v h1 h2
      have := ih I2 h1
      rw [nI_succ] at this
      rw [h2]
      exact this
    have no : ¬ (s (12 + 5 * k + 4) = nI 1 ∧ s (12 + 5 * k + 3) < nI 50) → sx_V 14 (d + 4) 0 0 K 4 [(0, .ref 19), (1, .int (gs_sum (gs_cntF s) k)), (2, .int (nI k + nI 1))] [] I' (sx_run rw m ln) := by
      intro q
      refine nxt I' _ h ?_
      rw [show gs_cntF s k = 0 from if_neg q]
      exact (Int32.add_zero _).symm
    refine sx_go m14 60 rfl (fun VV CC hV hC => ?_)
    refine ⟨fun (c1 : I' 19 1 ≤ nI k) => ?_, fun _ => ⟨k, ⟨rfl, by omega⟩, fun (c2 : ¬ I' 24 k = nI 1) => hV _ _ _ _ _ _ _ (no (fun q => c2 (by rw [gb_up_19 hb (by omega)]; exact q.1))), fun (c2 : I' 24 k = nI 1) => ⟨k, ⟨rfl, by omega⟩, fun (c3 : nI 50 ≤ I' 23 k) => hV _ _ _ _ _ _ _ (no (fun q => absurd q.2 (Int32.not_lt.mpr (by rw [← gb_doubt_19 hb (by omega)]; exact c3)))), fun (c3 : ¬ nI 50 ≤ I' 23 k) => ?_⟩⟩⟩
    · exfalso; rw [hb.1.1, hn] at c1; exact nI_ge hkc (by omega) c1
    · rw [gb_up_19 hb (by omega)] at c2
      rw [gb_doubt_19 hb (by omega)] at c3
      refine hC _ _ _ _ _ (c_looksOf_19 rfl (by omega) hb (htx.cg h.hi rfl (fun _ _ _ => rfl)) hnt ht0 (fun I2 h2 => hV _ _ _ _ _ _ _ (nxt I2 _ (h.tr h2) ?_)))
      rw [show gs_cntF s k = gs_looks s k from if_pos ⟨c2, Int32.not_le.mp c3⟩]
theorem c_counted_19 {n t0 : Nat} (hb : gb 19 s I) (hn : s 0 = nI n) (hn10 : n ≤ 10) (htx : gb_tx I (rw 19) m ln s) (hnt : s 2 = nI t0) (ht0 : t0 < 2 ^ 31) (hk : ∀ I', gb_k I I' → K (some (.int (gs_cnt s))) I' (sx_run rw m ln)) : sx_C 14 (d + 4) [.ref 19] I (sx_run rw m ln) K := by
  unfold gs_cnt at hk
  rw [hn, nI_clamp (by omega)] at hk
  refine sx_enter (by decide +kernel) (Nat.le_of_ble_eq_true rfl) (sx_go m14 60 rfl (fun VV CC hV hC => hV _ _ _ _ _ _ _ ?_))
  exact v_counted_19 (d := d) hb hn hn10 htx hnt ht0 hk n 0 I (by omega) (gb_k.rf I)
theorem v_strength_19 {n : Nat} (hb : gb 19 s I) (hn : s 0 = nI n) (hn10 : n ≤ 10) (hk : K (some (.int (gs_sum (gs_strF s) n))) I (sx_run rw m ln)) :
    ∀ (r k : Nat) (I' : sx_I), k + r = n → I' = I → sx_V 15 (d + 2) 0 0 K 4 [(0, .ref 19), (1, .int (gs_sum (gs_strF s) k)), (2, .int (nI k))] [] I' (sx_run rw m ln) := by
  refine sx_for n (fun I' h => ?_) (fun k I' hkc h ih => ?_)
  · subst h
    refine sx_go m15 60 rfl (fun VV CC hV hC => ?_)
    refine ⟨fun _ => hk, fun (c1 : ¬ I' 19 1 ≤ nI n) => ?_⟩
    exfalso; rw [hb.1.1, hn] at c1; exact c1 (Int32.le_refl _)
  · subst h
    have nxt : ∀ (v : Int32), v = gs_sum (gs_strF s) k + gs_strF s k → sx_V 15 (d + 2) 0 0 K 4 [(0, .ref 19), (1, .int v), (2, .int (nI k + nI 1))] [] I' (sx_run rw m ln) := by
      intro v h2
      have := ih I' rfl
      rw [nI_succ] at this
      rw [h2]
      exact this
    refine sx_go m15 60 rfl (fun VV CC hV hC => ?_)
    refine ⟨fun (c1 : I' 19 1 ≤ nI k) => ?_, fun _ => ⟨k, ⟨rfl, by omega⟩, fun (c2 : ¬ I' 24 k = nI 1) => hV _ _ _ _ _ _ _ (nxt _ ?_), fun (c2 : I' 24 k = nI 1) => ⟨k, ⟨rfl, by omega⟩, hC _ _ _ _ _ (c_fights1 (hV _ _ _ _ _ _ _ (nxt _ ?_)))⟩⟩⟩
    · exfalso; rw [hb.1.1, hn] at c1; exact nI_ge hkc (by omega) c1
    · rw [gb_up_19 hb (by omega)] at c2
      rw [show gs_strF s k = 0 from if_neg c2]
      exact (Int32.add_zero _).symm
    · rw [gb_up_19 hb (by omega)] at c2
      rw [show gs_strF s k = gs_fights (s (12 + 5 * k + 0)) from if_pos c2, gb_kind_19 hb (by omega)]
theorem c_strength_19 {n : Nat} (hb : gb 19 s I) (hn : s 0 = nI n) (hn10 : n ≤ 10) (hk : K (some (.int (gs_str s))) I (sx_run rw m ln)) : sx_C 15 (d + 2) [.ref 19] I (sx_run rw m ln) K := by
  unfold gs_str at hk
  rw [hn, nI_clamp (by omega)] at hk
  refine sx_enter (by decide +kernel) (Nat.le_of_ble_eq_true rfl) (sx_go m15 60 rfl (fun VV CC hV hC => hV _ _ _ _ _ _ _ ?_))
  exact v_strength_19 (d := d) hb hn hn10 hk n 0 I (by omega) rfl
theorem v_doubts_19 {n : Nat} (hb : gb 19 s I) (hn : s 0 = nI n) (hn10 : n ≤ 10) (hk : K (some (.int (gs_sum (fun k => s (12 + 5 * k + 3)) n))) I (sx_run rw m ln)) :
    ∀ (r k : Nat) (I' : sx_I), k + r = n → I' = I → sx_V 17 (d + 2) 0 0 K 4 [(0, .ref 19), (1, .int (gs_sum (fun k => s (12 + 5 * k + 3)) k)), (2, .int (nI k))] [] I' (sx_run rw m ln) := by
  refine sx_for n (fun I' h => ?_) (fun k I' hkc h ih => ?_)
  · subst h
    refine sx_go m17 60 rfl (fun VV CC hV hC => ?_)
    refine ⟨fun _ => hk, fun (c1 : ¬ I' 19 1 ≤ nI n) => ?_⟩
    exfalso; rw [hb.1.1, hn] at c1; exact c1 (Int32.le_refl _)
  · subst h
    refine sx_go m17 60 rfl (fun VV CC hV hC => ?_)
    refine ⟨fun (c1 : I' 19 1 ≤ nI k) => ?_, fun _ => ⟨k, ⟨rfl, by omega⟩, hV _ _ _ _ _ _ _ ?_⟩⟩
    · exfalso; rw [hb.1.1, hn] at c1; exact nI_ge hkc (by omega) c1
    · have := ih I' rfl
      rw [nI_succ k] at this
      rw [gb_doubt_19 hb (by omega)]
      exact this
theorem c_doubts_19 {n : Nat} (hb : gb 19 s I) (hn : s 0 = nI n) (hn10 : n ≤ 10) (hk : K (some (.int (gs_doubts s))) I (sx_run rw m ln)) : sx_C 17 (d + 2) [.ref 19] I (sx_run rw m ln) K := by
  unfold gs_doubts at hk
  rw [gs_N_eq hn hn10] at hk
  refine sx_enter (by decide +kernel) (Nat.le_of_ble_eq_true rfl) (sx_go m17 60 rfl (fun VV CC hV hC => hV _ _ _ _ _ _ _ ?_))
  exact v_doubts_19 (d := d) hb hn hn10 hk n 0 I (by omega) rfl
theorem c_draw_37 (hb : gb 37 s I) (hT : gs_tn s) (hk : ∀ I', gb_fr 37 I I' → gb 37 (gs_drawS s) I' → K (some (.int (gs_dv (gs_draw (s 11))))) I' (sx_run rw m ln)) : sx_C 9 (d + 1) [.ref 37] I (sx_run rw m ln) K := by
  have h := hk _ (gb_fr.up I 37 (upd (I 37) 10 (gs_draw (s 11))) (by omega) (by omega)) (hb.z _ hT)
  rw [← hb.1.2.2.1] at h
  refine sx_enter (by decide +kernel) (Nat.le_of_ble_eq_true rfl) (sx_go m9 60 rfl (fun VV CC hV hC => ?_))
  refine sx_kk ?_ h
  rw [sx_up_same]
  show gs_dv (upd (I 37) 10 (gs_draw (I 37 10)) 10) = _
  rw [pk_us]
theorem v_owner_37 {n : Nat} {p : Int32} (hb : gb 37 s I) (hn : s 0 = nI n) (hn10 : n ≤ 10) (hk : K (some (.int (gs_on (gs_whoV s n p)))) I (sx_run rw m ln)) :
    ∀ (r k : Nat) (I' : sx_I), k + r = n → (I' = I ∧ ∀ i, i < k → ¬ s (12 + 5 * i + 1) = p) → sx_V 10 (d + 1) 0 0 K 2 [(0, .ref 37), (1, .int p), (2, .int (nI k))] [] I' (sx_run rw m ln) := by
  refine sx_for n (fun I' h => ?_) (fun k I' hkc h ih => ?_)
  · obtain ⟨rfl, hbef⟩ := h
    have e : gs_whoV s n p = -1 := by
      unfold gs_whoV
      rw [show gs_who s n p = n from gs_fst_none _ _ (fun i hi => decide_eq_false (hbef i hi)), if_neg (Nat.lt_irrefl _)]
    rw [e, gs_on_m] at hk
    refine sx_go m10 60 rfl (fun VV CC hV hC => ?_)
    refine ⟨fun _ => hk, fun (c1 : ¬ I' 37 1 ≤ nI n) => ?_⟩
    exfalso; rw [hb.1.1, hn] at c1; exact c1 (Int32.le_refl _)
  · obtain ⟨rfl, hbef⟩ := h
    refine sx_go m10 60 rfl (fun VV CC hV hC => ?_)
    refine ⟨fun (c1 : I' 37 1 ≤ nI k) => ?_, fun _ => ⟨k, ⟨rfl, by omega⟩, fun (c2 : ¬ I' 39 k = p) => hV _ _ _ _ _ _ _ ?_, fun (c2 : I' 39 k = p) => ?_⟩⟩
    · exfalso; rw [hb.1.1, hn] at c1; exact nI_ge hkc (by omega) c1
    · rw [gb_post_37 hb (by omega)] at c2
      have := ih I' ⟨rfl, fun i hi => by
        rcases Nat.lt_or_ge i k with q | q
        · exact hbef i q
        · have : i = k := by omega
          subst this; exact c2⟩
      rw [nI_succ] at this
      exact this
    · rw [gb_post_37 hb (by omega)] at c2
      have e : gs_who s n p = k := gs_fst_at _ _ _ hkc (fun i hi => decide_eq_false (hbef i hi)) (decide_eq_true c2)
      have e2 : gs_whoV s n p = nI k := by unfold gs_whoV; rw [e, if_pos hkc]
      rw [e2, gs_on_t (by omega)] at hk
      exact hk
theorem c_owner_37 {n : Nat} {p : Int32} (hb : gb 37 s I) (hn : s 0 = nI n) (hn10 : n ≤ 10) (hk : K (some (.int (gs_on (gs_whoV s n p)))) I (sx_run rw m ln)) : sx_C 10 (d + 1) [.ref 37, .int p] I (sx_run rw m ln) K := by
  refine sx_enter (by decide +kernel) (Nat.le_of_ble_eq_true rfl) (sx_go m10 60 rfl (fun VV CC hV hC => hV _ _ _ _ _ _ _ ?_))
  exact v_owner_37 (d := d) hb hn hn10 hk n 0 I (by omega) ⟨rfl, fun i hi => absurd hi (Nat.not_lt_zero i)⟩
theorem c_sight_37 {g q : Nat} {x p : Int32} (hx : x = nI g) (hg : g < 10) (hp : p = nI q) (hq : q < 20) (hb : gb 37 s I) (hi : gs_inv s) (hk : K (some (.int (gb_sight s g p))) I (sx_run rw m ln)) : sx_C 11 (d + 2) [.ref 37, .int x, .int p] I (sx_run rw m ln) K := by
  obtain ⟨w, ew, hw⟩ := hi.post hg
  subst hx
  unfold gb_sight at hk
  refine sx_enter (by decide +kernel) (Nat.le_of_ble_eq_true rfl) (sx_go m11 60 rfl (fun VV CC hV hC => ?_))
  refine ⟨g, ⟨rfl, hg⟩, hC _ _ _ _ _ (c_abs ⟨0, ⟨rfl, by omega⟩, ?_⟩)⟩
  rw [gb_post_37 hb hg, gb_rule_37 hb (by omega), gs_abs_off ew hp (by omega) (by omega)]
  refine ⟨fun (c1 : s (3 + 0) < gs_off (s (12 + 5 * g + 1)) p) => ?_, fun (c1 : ¬ s (3 + 0) < gs_off (s (12 + 5 * g + 1)) p) => ?_⟩
  · rw [if_pos c1] at hk; exact ⟨Or.inl rfl, hk⟩
  · rw [if_neg c1] at hk; exact ⟨Or.inr rfl, hk⟩
theorem c_near_37 {g q : Nat} {x p : Int32} (hx : x = nI g) (hg : g < 10) (hp : p = nI q) (hq : q < 20) (hb : gb 37 s I) (hi : gs_inv s) (hk : K (some (.int (gb_near s g p))) I (sx_run rw m ln)) : sx_C 12 (d + 2) [.ref 37, .int x, .int p] I (sx_run rw m ln) K := by
  obtain ⟨w, ew, hw⟩ := hi.post hg
  subst hx
  unfold gb_near at hk
  refine sx_enter (by decide +kernel) (Nat.le_of_ble_eq_true rfl) (sx_go m12 60 rfl (fun VV CC hV hC => ?_))
  refine ⟨g, ⟨rfl, hg⟩, hC _ _ _ _ _ (c_abs ?_)⟩
  rw [gb_post_37 hb hg, gs_abs_off ew hp (by omega) (by omega)]
  refine ⟨fun (c1 : nI 2 < gs_off (s (12 + 5 * g + 1)) p) => ?_, fun (c1 : ¬ nI 2 < gs_off (s (12 + 5 * g + 1)) p) => ?_⟩
  · rw [if_pos c1] at hk; exact ⟨Or.inl rfl, hk⟩
  · rw [if_neg c1] at hk; exact ⟨Or.inr rfl, hk⟩
theorem c_textFor_37 {w T : Nat} {x : Int32} (hx : x = nI w) (hw : w < 3) (hb : gb 37 s I) (hT : s 1 = nI T) (hT14 : T ≤ 14) (hok : ∀ t, t < T → gb_tx1 I (rw 37) m ln s t) (h0 : gs_counts s (nI w) T = -1 → K (some .null) I (sx_run rw m ln)) (h1 : ∀ t ta, t < T → gs_counts s (nI w) T = nI t → rw 37 t = some ta → K (some (.ref ta)) I (sx_run rw m ln)) : sx_C 231 (d + 2) [.ref 137, .int x] I (sx_run rw m ln) K := by
  subst hx
  have ecnt : I 45 w = gs_on (gs_counts s (nI w) T) := by rw [gb_cnt_37 hb hw, hT, nI_clamp (by omega)]
  have etx : I 137 1 = nI T := hb.1.2.2.2.trans hT
  refine sx_enter (by decide +kernel) (Nat.le_of_ble_eq_true rfl) (sx_go m231 60 rfl (fun VV CC hV hC => ?_))
  refine ⟨w, ⟨rfl, hw⟩, hC _ _ _ _ _ (c_isWithin ?_)⟩
  rcases gs_counts_lt s (nI w) T hT14 with e | ⟨t, ht, e⟩
  · have z : gs_in (I 45 w) (nI 0) (I 137 1 - nI 1) = 0 := by
      rw [ecnt, e, gs_on_m]
      exact if_neg (fun h => absurd h.1 (by decide +kernel))
    exact ⟨fun _ => h0 e, fun c => absurd z c⟩
  · have ev : I 45 w = nI t := by rw [ecnt, e, gs_on_t (by omega)]
    have z : ¬ gs_in (I 45 w) (nI 0) (I 137 1 - nI 1) = 0 := by
      rw [ev, etx, pk_sub (by omega)]
      exact gs_in_iff.mpr ⟨nI_le (by omega) (by omega), nI_le (by omega) (by omega)⟩
    obtain ⟨u, M, q1, -⟩ := hok t ht
    refine ⟨fun c => absurd c z, fun _ => ⟨t, ⟨ev, by omega⟩, fun b2 (e2 : rw 37 t = some b2) => h1 t b2 ht e e2, fun (e2 : rw 37 t = none) => ?_⟩⟩
    rw [q1] at e2; cases e2
theorem c_looksOf_37 {g t0 : Nat} {x : Int32} (hx : x = nI g) (hg : g < 10) (hb : gb 37 s I) (htx : gb_tx I (rw 37) m ln s) (hnt : s 2 = nI t0) (ht0 : t0 < 2 ^ 31) (hk : ∀ I', gb_k I I' → K (some (.int (gs_looks s g))) I' (sx_run rw m ln)) : sx_C 13 (d + 3) [.ref 37, .int x] I (sx_run rw m ln) K := by
  obtain ⟨T, hT, hT14, hok, -⟩ := htx
  subst hx
  have hpl : gs_plain s g = if gs_counts s 0 T < 0 then nI 60 - s (12 + 5 * g + 2) / nI 2 else gs_wi (gs_work (gs_nm3 (s (12 + 5 * g + 2)) (s (12 + 5 * g + 3)) (s (12 + 5 * g + 1)) (fun _ => 0)) s (gs_counts s 0 T).toNatClampNeg) (nI 99) := by
    unfold gs_plain; rw [hT, nI_clamp (by omega)]
  refine sx_enter (by decide +kernel) (Nat.le_of_ble_eq_true rfl) (sx_go m13 60 rfl (fun VV CC hV hC => ?_))
  refine hC _ _ _ _ _ (c_textFor_37 (w := 0) rfl (by omega) hb hT hT14 hok (fun e => ?_) (fun t ta ht e er => ?_))
  · have e : gs_counts s 0 T = -1 := e
    refine ⟨g, ⟨rfl, hg⟩, by decide +kernel, g, ⟨rfl, hg⟩, ?_⟩
    refine hC _ _ _ _ _ (c_looks1 (by rw [hb.1.2.1]; exact hnt) ht0 (sx_kk ?_ (hk _ (gb_k.rf I))))
    rw [gb_wear_37 hb hg, gb_kind_37 hb hg, hb.1.2.1]
    unfold gs_looks
    rw [hpl, e, if_pos (by decide +kernel)]
  · have e : gs_counts s 0 T = nI t := e
    have hkey := gs_counts_key s 0 T t hT14 ht e
    obtain ⟨hal, hsh⟩ := (hok t ht).obj (rw := rw) er
    refine ⟨g, ⟨rfl, hg⟩, g, ⟨rfl, hg⟩, g, ⟨rfl, hg⟩, ?_⟩
    rw [gb_wear_37 hb hg, gb_doubt_37 hb hg, gb_post_37 hb hg]
    refine sx_s_virt (cs := x13_49) rfl rfl rfl hal hsh ?_
    refine hC _ _ _ _ _ (c_valueOf (nm := gs_nm3 (s (12 + 5 * g + 2)) (s (12 + 5 * g + 3)) (s (12 + 5 * g + 1)) (fun _ => 0)) (hok t ht) er (fun n hn => ?_) (fun I2 hI2 => ?_))
    · rw [hkey] at hn
      rcases hn with ⟨-, rfl | rfl | rfl⟩ | ⟨q, -⟩ | ⟨q, -⟩
      · rfl
      · rfl
      · rfl
      · exact absurd q (by decide +kernel)
      · exact absurd q (by decide +kernel)
    · refine hC _ _ _ _ _ (c_held ⟨g, ⟨rfl, hg⟩, ?_⟩)
      have n1 : I2 38 = I 38 := hI2 38 (by omega)
      have n2 : I2 37 = I 37 := hI2 37 (by omega)
      refine hC _ _ _ _ _ (c_looks1 (by rw [n2, hb.1.2.1]; exact hnt) ht0 (sx_kk ?_ (hk _ hI2)))
      rw [n1, n2, gb_kind_37 hb hg, hb.1.2.1]
      unfold gs_looks
      rw [hpl, e, if_neg (nI_pos (by omega)), nI_clamp (by omega)]
theorem v_counted_37 {n t0 : Nat} (hb : gb 37 s I) (hn : s 0 = nI n) (hn10 : n ≤ 10) (htx : gb_tx I (rw 37) m ln s) (hnt : s 2 = nI t0) (ht0 : t0 < 2 ^ 31) (hk : ∀ I', gb_k I I' → K (some (.int (gs_sum (gs_cntF s) n))) I' (sx_run rw m ln)) :
    ∀ (r k : Nat) (I' : sx_I), k + r = n → gb_k I I' → sx_V 14 (d + 4) 0 0 K 4 [(0, .ref 37), (1, .int (gs_sum (gs_cntF s) k)), (2, .int (nI k))] [] I' (sx_run rw m ln) := by
  refine sx_for n (fun I' h => ?_) (fun k I' hkc h ih => ?_)
  · have hb := h.gb hb (by omega)
    refine sx_go m14 60 rfl (fun VV CC hV hC => ?_)
    refine ⟨fun _ => hk I' h, fun (c1 : ¬ I' 37 1 ≤ nI n) => ?_⟩
    exfalso; rw [hb.1.1, hn] at c1; exact c1 (Int32.le_refl _)
  · have hb := h.gb hb (by omega)
    have nxt : ∀ (I2 : sx_I) (v : Int32), gb_k I I2 → v = gs_sum (gs_cntF s) k + gs_cntF s k → sx_V 14 (d + 4) 0 0 K 4 [(0, .ref 37), (1, .int v), (2, .int (nI k + nI 1))] [] I2 (sx_run rw m ln) := by
      intro I2 v h1 h2
      have := ih I2 h1
      rw [nI_succ] at this
      rw [h2]
      exact this
    have no : ¬ (s (12 + 5 * k + 4) = nI 1 ∧ s (12 + 5 * k + 3) < nI 50) → sx_V 14 (d + 4) 0 0 K 4 [(0, .ref 37), (1, .int (gs_sum (gs_cntF s) k)), (2, .int (nI k + nI 1))] [] I' (sx_run rw m ln) := by
      intro q
      refine nxt I' _ h ?_
      rw [show gs_cntF s k = 0 from if_neg q]
      exact (Int32.add_zero _).symm
    refine sx_go m14 60 rfl (fun VV CC hV hC => ?_)
    refine ⟨fun (c1 : I' 37 1 ≤ nI k) => ?_, fun _ => ⟨k, ⟨rfl, by omega⟩, fun (c2 : ¬ I' 42 k = nI 1) => hV _ _ _ _ _ _ _ (no (fun q => c2 (by rw [gb_up_37 hb (by omega)]; exact q.1))), fun (c2 : I' 42 k = nI 1) => ⟨k, ⟨rfl, by omega⟩, fun (c3 : nI 50 ≤ I' 41 k) => hV _ _ _ _ _ _ _ (no (fun q => absurd q.2 (Int32.not_lt.mpr (by rw [← gb_doubt_37 hb (by omega)]; exact c3)))), fun (c3 : ¬ nI 50 ≤ I' 41 k) => ?_⟩⟩⟩
    · exfalso; rw [hb.1.1, hn] at c1; exact nI_ge hkc (by omega) c1
    · rw [gb_up_37 hb (by omega)] at c2
      rw [gb_doubt_37 hb (by omega)] at c3
      refine hC _ _ _ _ _ (c_looksOf_37 rfl (by omega) hb (htx.cg h.hi rfl (fun _ _ _ => rfl)) hnt ht0 (fun I2 h2 => hV _ _ _ _ _ _ _ (nxt I2 _ (h.tr h2) ?_)))
      rw [show gs_cntF s k = gs_looks s k from if_pos ⟨c2, Int32.not_le.mp c3⟩]
theorem c_counted_37 {n t0 : Nat} (hb : gb 37 s I) (hn : s 0 = nI n) (hn10 : n ≤ 10) (htx : gb_tx I (rw 37) m ln s) (hnt : s 2 = nI t0) (ht0 : t0 < 2 ^ 31) (hk : ∀ I', gb_k I I' → K (some (.int (gs_cnt s))) I' (sx_run rw m ln)) : sx_C 14 (d + 4) [.ref 37] I (sx_run rw m ln) K := by
  unfold gs_cnt at hk
  rw [hn, nI_clamp (by omega)] at hk
  refine sx_enter (by decide +kernel) (Nat.le_of_ble_eq_true rfl) (sx_go m14 60 rfl (fun VV CC hV hC => hV _ _ _ _ _ _ _ ?_))
  exact v_counted_37 (d := d) hb hn hn10 htx hnt ht0 hk n 0 I (by omega) (gb_k.rf I)
theorem v_strength_37 {n : Nat} (hb : gb 37 s I) (hn : s 0 = nI n) (hn10 : n ≤ 10) (hk : K (some (.int (gs_sum (gs_strF s) n))) I (sx_run rw m ln)) :
    ∀ (r k : Nat) (I' : sx_I), k + r = n → I' = I → sx_V 15 (d + 2) 0 0 K 4 [(0, .ref 37), (1, .int (gs_sum (gs_strF s) k)), (2, .int (nI k))] [] I' (sx_run rw m ln) := by
  refine sx_for n (fun I' h => ?_) (fun k I' hkc h ih => ?_)
  · subst h
    refine sx_go m15 60 rfl (fun VV CC hV hC => ?_)
    refine ⟨fun _ => hk, fun (c1 : ¬ I' 37 1 ≤ nI n) => ?_⟩
    exfalso; rw [hb.1.1, hn] at c1; exact c1 (Int32.le_refl _)
  · subst h
    have nxt : ∀ (v : Int32), v = gs_sum (gs_strF s) k + gs_strF s k → sx_V 15 (d + 2) 0 0 K 4 [(0, .ref 37), (1, .int v), (2, .int (nI k + nI 1))] [] I' (sx_run rw m ln) := by
      intro v h2
      have := ih I' rfl
      rw [nI_succ] at this
      rw [h2]
      exact this
    refine sx_go m15 60 rfl (fun VV CC hV hC => ?_)
    refine ⟨fun (c1 : I' 37 1 ≤ nI k) => ?_, fun _ => ⟨k, ⟨rfl, by omega⟩, fun (c2 : ¬ I' 42 k = nI 1) => hV _ _ _ _ _ _ _ (nxt _ ?_), fun (c2 : I' 42 k = nI 1) => ⟨k, ⟨rfl, by omega⟩, hC _ _ _ _ _ (c_fights1 (hV _ _ _ _ _ _ _ (nxt _ ?_)))⟩⟩⟩
    · exfalso; rw [hb.1.1, hn] at c1; exact nI_ge hkc (by omega) c1
    · rw [gb_up_37 hb (by omega)] at c2
      rw [show gs_strF s k = 0 from if_neg c2]
      exact (Int32.add_zero _).symm
    · rw [gb_up_37 hb (by omega)] at c2
      rw [show gs_strF s k = gs_fights (s (12 + 5 * k + 0)) from if_pos c2, gb_kind_37 hb (by omega)]
theorem c_strength_37 {n : Nat} (hb : gb 37 s I) (hn : s 0 = nI n) (hn10 : n ≤ 10) (hk : K (some (.int (gs_str s))) I (sx_run rw m ln)) : sx_C 15 (d + 2) [.ref 37] I (sx_run rw m ln) K := by
  unfold gs_str at hk
  rw [hn, nI_clamp (by omega)] at hk
  refine sx_enter (by decide +kernel) (Nat.le_of_ble_eq_true rfl) (sx_go m15 60 rfl (fun VV CC hV hC => hV _ _ _ _ _ _ _ ?_))
  exact v_strength_37 (d := d) hb hn hn10 hk n 0 I (by omega) rfl
theorem v_doubts_37 {n : Nat} (hb : gb 37 s I) (hn : s 0 = nI n) (hn10 : n ≤ 10) (hk : K (some (.int (gs_sum (fun k => s (12 + 5 * k + 3)) n))) I (sx_run rw m ln)) :
    ∀ (r k : Nat) (I' : sx_I), k + r = n → I' = I → sx_V 17 (d + 2) 0 0 K 4 [(0, .ref 37), (1, .int (gs_sum (fun k => s (12 + 5 * k + 3)) k)), (2, .int (nI k))] [] I' (sx_run rw m ln) := by
  refine sx_for n (fun I' h => ?_) (fun k I' hkc h ih => ?_)
  · subst h
    refine sx_go m17 60 rfl (fun VV CC hV hC => ?_)
    refine ⟨fun _ => hk, fun (c1 : ¬ I' 37 1 ≤ nI n) => ?_⟩
    exfalso; rw [hb.1.1, hn] at c1; exact c1 (Int32.le_refl _)
  · subst h
    refine sx_go m17 60 rfl (fun VV CC hV hC => ?_)
    refine ⟨fun (c1 : I' 37 1 ≤ nI k) => ?_, fun _ => ⟨k, ⟨rfl, by omega⟩, hV _ _ _ _ _ _ _ ?_⟩⟩
    · exfalso; rw [hb.1.1, hn] at c1; exact nI_ge hkc (by omega) c1
    · have := ih I' rfl
      rw [nI_succ k] at this
      rw [gb_doubt_37 hb (by omega)]
      exact this
theorem c_doubts_37 {n : Nat} (hb : gb 37 s I) (hn : s 0 = nI n) (hn10 : n ≤ 10) (hk : K (some (.int (gs_doubts s))) I (sx_run rw m ln)) : sx_C 17 (d + 2) [.ref 37] I (sx_run rw m ln) K := by
  unfold gs_doubts at hk
  rw [gs_N_eq hn hn10] at hk
  refine sx_enter (by decide +kernel) (Nat.le_of_ble_eq_true rfl) (sx_go m17 60 rfl (fun VV CC hV hC => hV _ _ _ _ _ _ _ ?_))
  exact v_doubts_37 (d := d) hb hn hn10 hk n 0 I (by omega) rfl
theorem v_downs_19 {n : Nat} (hb : gb 19 s I) (hn : s 0 = nI n) (hn10 : n ≤ 10) (hk : K (some (.int (gs_ors (gs_downF s) n))) I (sx_run rw m ln)) :
    ∀ (r k : Nat) (I' : sx_I), k + r = n → I' = I → sx_V 16 (d + 2) 0 0 K 4 [(0, .ref 19), (1, .int (gs_ors (gs_downF s) k)), (2, .int (nI k))] [] I' (sx_run rw m ln) := by
  refine sx_for n (fun I' h => ?_) (fun k I' hkc h ih => ?_)
  · subst h
    refine sx_go m16 60 rfl (fun VV CC hV hC => ?_)
    refine ⟨fun _ => hk, fun (c1 : ¬ I' 19 1 ≤ nI n) => ?_⟩
    exfalso; rw [hb.1.1, hn] at c1; exact c1 (Int32.le_refl _)
  · subst h
    have nxt : ∀ (v : Int32), v = gs_ors (gs_downF s) k ||| gs_downF s k → sx_V 16 (d + 2) 0 0 K 4 [(0, .ref 19), (1, .int v), (2, .int (nI k + nI 1))] [] I' (sx_run rw m ln) := by
      intro v h2
      have := ih I' rfl
      rw [nI_succ] at this
      rw [h2]
      exact this
    refine sx_go m16 60 rfl (fun VV CC hV hC => ?_)
    refine ⟨fun (c1 : I' 19 1 ≤ nI k) => ?_, fun _ => ⟨k, ⟨rfl, by omega⟩, fun (c2 : ¬ I' 24 k = 0) => hV _ _ _ _ _ _ _ (nxt _ ?_), fun (c2 : I' 24 k = 0) => hV _ _ _ _ _ _ _ (nxt _ ?_)⟩⟩
    · exfalso; rw [hb.1.1, hn] at c1; exact nI_ge hkc (by omega) c1
    · rw [gb_up_19 hb (by omega)] at c2
      rw [show gs_downF s k = 0 from if_neg c2]
      simp
    · rw [gb_up_19 hb (by omega)] at c2
      rw [show gs_downF s k = nI 1 <<< (nI k &&& 31) from if_pos c2]
theorem c_downs_19 {n : Nat} (hb : gb 19 s I) (hn : s 0 = nI n) (hn10 : n ≤ 10) (hk : K (some (.int (gs_downs s))) I (sx_run rw m ln)) : sx_C 16 (d + 2) [.ref 19] I (sx_run rw m ln) K := by
  unfold gs_downs at hk
  rw [gs_N_eq hn hn10] at hk
  refine sx_enter (by decide +kernel) (Nat.le_of_ble_eq_true rfl) (sx_go m16 60 rfl (fun VV CC hV hC => hV _ _ _ _ _ _ _ ?_))
  exact v_downs_19 (d := d) hb hn hn10 hk n 0 I (by omega) rfl
theorem gb_lt3 {x : Int32} : nI 2 < x ↔ nI 3 ≤ x := by
  rw [Int32.lt_iff_toInt_lt, Int32.le_iff_toInt_le, nI_toInt (by omega), nI_toInt (by omega)]
  omega
theorem v_others_19 {n q : Nat} {g p : Int32} (hb : gb 19 s I) (hi : gs_inv s) (hn : s 0 = nI n) (hn10 : n ≤ 10) (hp : p = nI q) (hq : q < 20) (hk : K (some (.int (gs_sum (gs_reF s g p) n))) I (sx_run rw m ln)) :
    ∀ (r k : Nat) (I' : sx_I), k + r = n → I' = I → sx_V 18 (d + 3) 0 0 K 5 [(0, .ref 19), (1, .int g), (2, .int p), (3, .int (gs_sum (gs_reF s g p) k)), (4, .int (nI k))] [] I' (sx_run rw m ln) := by
  refine sx_for n (fun I' h => ?_) (fun k I' hkc h ih => ?_)
  · subst h
    refine sx_go m18 60 rfl (fun VV CC hV hC => ?_)
    refine ⟨fun _ => hk, fun (c1 : ¬ I' 19 1 ≤ nI n) => ?_⟩
    exfalso; rw [hb.1.1, hn] at c1; exact c1 (Int32.le_refl _)
  · subst h
    have no : gs_reF s g p k = 0 → sx_V 18 (d + 3) 0 0 K 5 [(0, .ref 19), (1, .int g), (2, .int p), (3, .int (gs_sum (gs_reF s g p) k)), (4, .int (nI k + nI 1))] [] I' (sx_run rw m ln) := by
      intro e
      have := ih I' rfl
      rw [nI_succ k, show gs_sum (gs_reF s g p) (k + 1) = gs_sum (gs_reF s g p) k from by rw [gs_sum, e, Int32.add_zero]] at this
      exact this
    have yes : gs_reF s g p k = nI 1 → sx_V 18 (d + 3) 0 0 K 5 [(0, .ref 19), (1, .int g), (2, .int p), (3, .int (gs_sum (gs_reF s g p) k + nI 1)), (4, .int (nI k + nI 1))] [] I' (sx_run rw m ln) := by
      intro e
      have := ih I' rfl
      rw [nI_succ k, show gs_sum (gs_reF s g p) (k + 1) = gs_sum (gs_reF s g p) k + nI 1 from by rw [gs_sum, e]] at this
      exact this
    refine sx_go m18 60 rfl (fun VV CC hV hC => ?_)
    refine ⟨fun (c1 : I' 19 1 ≤ nI k) => ?_, fun _ => ⟨fun (c2 : nI k = g) => hV _ _ _ _ _ _ _ (no (if_pos c2)), fun (c2 : ¬ nI k = g) => ⟨k, ⟨rfl, by omega⟩, hC _ _ _ _ _ (c_lives1 ?_)⟩⟩⟩
    · exfalso; rw [hb.1.1, hn] at c1; exact nI_ge hkc (by omega) c1
    · rw [gb_kind_19 hb (by omega)]
      refine ⟨fun (c3 : ¬ gs_lives (s (12 + 5 * k + 0)) = 0) => hV _ _ _ _ _ _ _ (no (by unfold gs_reF; rw [if_neg c2, if_pos c3])), fun (c3 : gs_lives (s (12 + 5 * k + 0)) = 0) => hC _ _ _ _ _ (c_near_19 rfl (by omega) hp hq hb hi ⟨fun (c4 : gb_near s k p = 0) => hV _ _ _ _ _ _ _ (no ?_), fun (c4 : ¬ gb_near s k p = 0) => hV _ _ _ _ _ _ _ (yes ?_)⟩)⟩
      · unfold gb_near at c4
        by_cases c5 : nI 2 < gs_off (s (12 + 5 * k + 1)) p
        · unfold gs_reF
          rw [if_neg c2, if_neg (fun q => q c3), if_pos (gb_lt3.mp c5)]
        · rw [if_neg c5] at c4; exact absurd c4 (by decide +kernel)
      · unfold gb_near at c4
        by_cases c5 : nI 2 < gs_off (s (12 + 5 * k + 1)) p
        · rw [if_pos c5] at c4; exact absurd rfl c4
        · unfold gs_reF
          rw [if_neg c2, if_neg (fun q => q c3), if_neg (fun q => c5 (gb_lt3.mpr q))]
theorem c_others_19 {n q : Nat} {g p : Int32} (hb : gb 19 s I) (hi : gs_inv s) (hn : s 0 = nI n) (hn10 : n ≤ 10) (hp : p = nI q) (hq : q < 20) (hk : K (some (.int (gs_reach s g p))) I (sx_run rw m ln)) : sx_C 18 (d + 3) [.ref 19, .int g, .int p] I (sx_run rw m ln) K := by
  unfold gs_reach at hk
  rw [gs_N_eq hn hn10] at hk
  refine sx_enter (by decide +kernel) (Nat.le_of_ble_eq_true rfl) (sx_go m18 60 rfl (fun VV CC hV hC => hV _ _ _ _ _ _ _ ?_))
  exact v_others_19 (d := d) hb hi hn hn10 hp hq hk n 0 I (by omega) rfl
end
