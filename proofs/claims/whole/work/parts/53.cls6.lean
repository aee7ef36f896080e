/-! ===== a border's invariant; the class: a night ===== -/
theorem gs_wi_ok (v : Int32) : ∃ x, gs_wi v (nI 99) = nI x ∧ x ≤ 99 := by
  unfold gs_wi
  by_cases h : v < 0
  · rw [if_pos h]; exact ⟨0, rfl, by omega⟩
  · rw [if_neg h]
    by_cases h2 : nI 99 < v
    · rw [if_pos h2]; exact ⟨99, rfl, by omega⟩
    · rw [if_neg h2]
      obtain ⟨c, rfl, hc⟩ := gs_nat h
      refine ⟨c, rfl, ?_⟩
      have := Int32.not_lt.mp h2
      rw [nI_leI (by omega) (by omega)] at this
      exact this
theorem gs_upself (s : Nat → Int32) (i : Nat) : upd s i (s i) = s := by
  funext j
  unfold upd
  by_cases h : j = i
  · rw [if_pos h, h]
  · rw [if_neg h]
theorem gs_inv.up {s : Nat → Int32} (h : gs_inv s) {i : Nat} (h1 : 1 ≤ i) (h2 : i < 12) (v : Int32) : gs_inv (upd s i v) := by
  obtain ⟨⟨n, hn, hn10⟩, h3⟩ := h
  refine ⟨⟨n, by rw [pk_un (by omega)]; exact hn, hn10⟩, fun k hk => ?_⟩
  rw [pk_un (by omega), pk_un (by omega), pk_un (by omega), pk_un (by omega), pk_un (by omega)]
  exact h3 k hk
theorem gs_inv.set {s : Nat → Int32} (h : gs_inv s) {k w : Nat} {v : Int32} (hw : w < 5) (h0 : w = 0 → ∃ q, v = nI q ∧ q < 6) (h1 : w = 1 → ∃ p, v = nI p ∧ p < 20) (h2 : w = 2 → ∃ x, v = nI x ∧ x ≤ 99) (h3 : w = 3 → ∃ x, v = nI x ∧ x ≤ 99) (h4 : w = 4 → v = 0 ∨ v = nI 1) : gs_inv (gs_set s k w v) := by
  obtain ⟨⟨n, hn, hn10⟩, hg⟩ := h
  unfold gs_set
  refine ⟨⟨n, by rw [pk_un (by omega)]; exact hn, hn10⟩, fun k' hk' => ?_⟩
  obtain ⟨g0, g1, g2, g3, g4⟩ := hg k' hk'
  by_cases e : k' = k
  · subst e
    refine ⟨?_, ?_, ?_, ?_, ?_⟩
    · by_cases e : w = 0
      · subst e; rw [pk_us]; exact h0 rfl
      · rw [pk_un (by omega)]; exact g0
    · by_cases e : w = 1
      · subst e; rw [pk_us]; exact h1 rfl
      · rw [pk_un (by omega)]; exact g1
    · by_cases e : w = 2
      · subst e; rw [pk_us]; exact h2 rfl
      · rw [pk_un (by omega)]; exact g2
    · by_cases e : w = 3
      · subst e; rw [pk_us]; exact h3 rfl
      · rw [pk_un (by omega)]; exact g3
    · by_cases e : w = 4
      · subst e; rw [pk_us]; exact h4 rfl
      · rw [pk_un (by omega)]; exact g4
  · rw [pk_un (by omega), pk_un (by omega), pk_un (by omega), pk_un (by omega), pk_un (by omega)]
    exact ⟨g0, g1, g2, g3, g4⟩
theorem gs_inv.it {body : Nat → (Nat → Int32) → Nat → Int32} {s : Nat → Int32} (h : gs_inv s) (hb : ∀ k s, k < 10 → gs_inv s → gs_inv (body k s)) : ∀ n, n ≤ 10 → gs_inv (gs_it body n s)
  | 0, _ => h
  | n + 1, hn => hb n _ (by omega) (gs_inv.it h hb n (by omega))
theorem gs_inv.blow1 {s : Nat → Int32} (h : gs_inv s) (w : Int32) (k : Nat) : gs_inv (gs_blow1 w k s) := by
  unfold gs_blow1
  split
  · exact (h.set (by omega) (by omega) (by omega) (by omega) (by omega) (fun _ => Or.inl rfl)).up (by omega) (by omega) _
  · exact h
theorem gs_inv.rise1 {s : Nat → Int32} (h : gs_inv s) (n k : Nat) : gs_inv (gs_rise1 n k s) := by
  unfold gs_rise1 gs_rises
  split
  · split
    · exact h.set (by omega) (by omega) (by omega) (by omega) (by omega) (fun _ => Or.inr rfl)
    · exact h
  · exact h
theorem gs_inv.watch1 {s : Nat → Int32} (h : gs_inv s) (p : Int32) (k : Nat) : gs_inv (gs_watch1 p k s) := by
  unfold gs_watch1
  split
  · exact h
  · exact h.set (by omega) (by omega) (by omega) (by omega) (fun _ => gs_wi_ok _) (by omega)
theorem gs_inv.wet1 {s : Nat → Int32} (h : gs_inv s) (k : Nat) (hk : k < 10) : gs_inv (gs_wet1 k s) := by
  unfold gs_wet1
  refine h.set (by omega) (by omega) (by omega) (fun _ => ?_) (by omega) (by omega)
  split
  · exact gs_wi_ok _
  · exact (h.2 k hk).2.2.1
theorem gs_inv.N {s : Nat → Int32} (h : gs_inv s) : gs_N s ≤ 10 := by
  obtain ⟨⟨n, hn, hn10⟩, -⟩ := h
  rw [gs_N_eq hn hn10]; exact hn10
theorem gs_inv.blows {s : Nat → Int32} (h : gs_inv s) : gs_inv (gs_blows s) := (h.up (i := 11) (by omega) (by omega) _).it (fun k s _ hs => hs.blow1 _ k) _ h.N
theorem gs_inv.watches {s : Nat → Int32} (h : gs_inv s) : gs_inv (gs_watches s) := (h.up (i := 11) (by omega) (by omega) _).it (fun k s _ hs => hs.watch1 _ k) _ h.N
theorem gs_inv.rain {s : Nat → Int32} (h : gs_inv s) : gs_inv (gs_rain s) := by
  unfold gs_rain
  split
  · exact (h.up (i := 11) (by omega) (by omega) _).it (fun k s hk hs => hs.wet1 k hk) _ h.N
  · exact h.up (i := 11) (by omega) (by omega) _
theorem gs_inv.raid {s : Nat → Int32} (h : gs_inv s) : gs_inv (gs_raid s) := by
  unfold gs_raid
  split
  · split
    · exact h.up (by omega) (by omega) _
    · exact h.up (by omega) (by omega) _
  · exact h
theorem gs_inv.risen {s : Nat → Int32} (h : gs_inv s) (n : Nat) (hn : n ≤ 10) : gs_inv (gs_it (gs_rise1 n) n s) := h.it (fun k s _ hs => hs.rise1 n k) n hn
theorem gs_inv.step4 {s : Nat → Int32} (h : gs_inv s) : gs_inv (gs_step4 s) := (((h.blows).risen _ h.N).watches).rain
theorem gs_inv.night {s : Nat → Int32} (h : gs_inv s) : gs_inv (gs_night s) := h.step4.raid.up (by omega) (by omega) _
theorem gs_inv.many {s : Nat → Int32} (h : gs_inv s) : ∀ k, gs_inv (gs_many k s)
  | 0 => h
  | k + 1 => (gs_inv.many h k).night
theorem gs_lo.tn {s s' : Nat → Int32} (h : gs_lo s s') (hT : gs_tn s) : gs_tn s' := by
  obtain ⟨T, h1, h2⟩ := hT
  exact ⟨T, h.2.1.trans h1, h2⟩
theorem gb_tx.tn {I : sx_I} {rw : Nat → Option Nat} {m : Nat} {ln : Nat → Nat} {s : Nat → Int32} (h : gb_tx I rw m ln s) : gs_tn s := by
  obtain ⟨T, h1, h2, -⟩ := h
  exact ⟨T, h1, h2⟩
theorem gb_tx.lo {I I' : sx_I} {rw : Nat → Option Nat} {m : Nat} {ln : Nat → Nat} {s s' : Nat → Int32} (h : gb_tx I rw m ln s) (hI : ∀ a, 200 ≤ a → (a - 200) % 3 ≠ 2 → I' a = I a) (hl : gs_lo s s') : gb_tx I' rw m ln s' := h.cg hI hl.2.1 (fun i hi _ => hl.2.2 i hi)
theorem gb_fr.hi {b : Nat} {I I' : sx_I} (h : gb_fr b I I') (hb : b < 88) : ∀ a, 200 ≤ a → (a - 200) % 3 ≠ 2 → I' a = I a := fun a ha hc => h a (by omega) (by omega)
section
variable {d m : Nat} {I : sx_I} {rw : Nat → Nat → Option Nat} {ln : Nat → Nat} {K : sx_K} {s : Nat → Int32}
theorem v_blow_19 {w : Int32} {n : Nat} (hn : s 0 = nI n) (hn10 : n ≤ 10) (hT : gs_tn s) (hk : ∀ I', gb_fr 19 I I' → gb 19 (gs_it (gs_blow1 w) n s) I' → K none I' (sx_run rw m ln)) :
    ∀ (r k : Nat) (I' : sx_I), k + r = n → (gb_fr 19 I I' ∧ gb 19 (gs_it (gs_blow1 w) k s) I') → sx_V 20 (d + 2) 0 0 K 2 [(0, .ref 19), (1, .int w), (2, .int (nI k))] [] I' (sx_run rw m ln) := by
  have hlo : ∀ k, k ≤ 10 → gs_lo s (gs_it (gs_blow1 w) k s) := fun k hk => gs_lo.it s k (fun k' s hk' => gs_lo.blow1 w k' s (by omega))
  refine sx_for n (fun I' h => ?_) (fun k I' hkc h ih => ?_)
  · obtain ⟨hf, hb⟩ := h
    refine sx_go m20 60 rfl (fun VV CC hV hC => ?_)
    refine ⟨fun _ => hk I' hf hb, fun (c1 : ¬ I' 19 1 ≤ nI n) => ?_⟩
    exfalso; rw [hb.1.1, (hlo n hn10).1, hn] at c1; exact c1 (Int32.le_refl _)
  · obtain ⟨hf, hb⟩ := h
    have hl := hlo k (by omega)
    have no : ¬ (gs_it (gs_blow1 w) k s (12 + 5 * k + 4) = nI 1 ∧ w < gs_falls (gs_it (gs_blow1 w) k s (12 + 5 * k + 0)) (gs_it (gs_blow1 w) k s (12 + 5 * k + 2))) → sx_V 20 (d + 2) 0 0 K 2 [(0, .ref 19), (1, .int w), (2, .int (nI k + nI 1))] [] I' (sx_run rw m ln) := by
      intro q
      have := ih I' ⟨hf, by rw [gs_it, gs_blow1, if_neg q]; exact hb⟩
      rw [nI_succ] at this
      exact this
    refine sx_go m20 60 rfl (fun VV CC hV hC => ?_)
    refine ⟨fun (c1 : I' 19 1 ≤ nI k) => ?_, fun _ => ⟨k, ⟨rfl, by omega⟩, fun (c2 : ¬ I' 24 k = nI 1) => hV _ _ _ _ _ _ _ (no (fun q => c2 (by rw [gb_up_19 hb (by omega)]; exact q.1))), fun (c2 : I' 24 k = nI 1) => ⟨k, ⟨rfl, by omega⟩, k, ⟨rfl, by omega⟩, hC _ _ _ _ _ (c_falls1 ?_)⟩⟩⟩
    · exfalso; rw [hb.1.1, hl.1, hn] at c1; exact nI_ge hkc (by omega) c1
    · rw [gb_up_19 hb (by omega)] at c2
      rw [gb_kind_19 hb (by omega), gb_wear_19 hb (by omega)]
      refine ⟨fun (c3 : gs_falls (gs_it (gs_blow1 w) k s (12 + 5 * k + 0)) (gs_it (gs_blow1 w) k s (12 + 5 * k + 2)) ≤ w) => hV _ _ _ _ _ _ _ (no (fun q => absurd q.2 (Int32.not_lt.mpr c3))), fun (c3 : ¬ gs_falls (gs_it (gs_blow1 w) k s (12 + 5 * k + 0)) (gs_it (gs_blow1 w) k s (12 + 5 * k + 2)) ≤ w) => ⟨k, ⟨rfl, by omega⟩, 0, ⟨rfl, by omega⟩, 0, ⟨rfl, by omega⟩, hV _ _ _ _ _ _ _ ?_⟩⟩
      have hb2 := hb.set (k := k) (w := 4) (by omega) (by omega) (nI 0) (hl.tn hT)
      have hb3 := hb2.toll (w := 0) (by omega) (gs_set (gs_it (gs_blow1 w) k s) k 4 (nI 0) 7 + nI 1) ((hl.tr (gs_lo.set _ k 4 (nI 0) (by omega) (by omega))).tn hT)
      have ev : (sx_up I' 24 (upd (I' 24) k (nI 0))) 26 0 = gs_set (gs_it (gs_blow1 w) k s) k 4 (nI 0) 7 := gb_toll_19 hb2 (by omega)
      have := ih _ ⟨(hf.tr (gb_fr.up I' 24 (upd (I' 24) k (nI 0)) (by omega) (by omega))).tr (gb_fr.up _ 26 (upd ((sx_up I' 24 (upd (I' 24) k (nI 0))) 26) 0 (gs_set (gs_it (gs_blow1 w) k s) k 4 (nI 0) 7 + nI 1)) (by omega) (by omega)), by rw [gs_it, gs_blow1, if_pos ⟨c2, Int32.not_le.mp c3⟩]; exact hb3⟩
      rw [nI_succ k] at this
      rw [ev]
      exact this
theorem c_blow_19 {w : Int32} {n : Nat} (hb : gb 19 s I) (hn : s 0 = nI n) (hn10 : n ≤ 10) (hT : gs_tn s) (hk : ∀ I', gb_fr 19 I I' → gb 19 (gs_it (gs_blow1 w) n s) I' → K none I' (sx_run rw m ln)) : sx_C 20 (d + 2) [.ref 19, .int w] I (sx_run rw m ln) K := by
  refine sx_enter (by decide +kernel) (Nat.le_of_ble_eq_true rfl) (sx_go m20 60 rfl (fun VV CC hV hC => hV _ _ _ _ _ _ _ ?_))
  exact v_blow_19 (d := d) hn hn10 hT hk n 0 I (by omega) ⟨gb_fr.rf _ _, hb⟩
theorem v_first_19 {n q b : Nat} {p : Int32} (hb : gb 19 s I) (hi : gs_inv s) (hn : s 0 = nI n) (hn10 : n ≤ 10) (hT : gs_tn s) (hpb : s (12 + 5 * b + 1) = p) (hp : p = nI q) (hq : q < 20) (hk : ∀ I', gb_fr 19 I I' → gb 19 (gs_rises s n b) I' → K none I' (sx_run rw m ln)) :
    ∀ (r k : Nat) (I' : sx_I), k + r = n → (I' = I ∧ ∀ i, i < k → decide (¬ s (12 + 5 * i + 4) = nI 1 ∧ gs_off (s (12 + 5 * i + 1)) (s (12 + 5 * b + 1)) ≤ nI 2) = false) → sx_V 22 (d + 3) 0 0 K 2 [(0, .ref 19), (1, .int p), (2, .int (nI k))] [] I' (sx_run rw m ln) := by
  unfold gs_rises at hk
  refine sx_for n (fun I' h => ?_) (fun k I' hkc h ih => ?_)
  · obtain ⟨rfl, hbef⟩ := h
    have e : gs_fst (fun i => decide (¬ s (12 + 5 * i + 4) = nI 1 ∧ gs_off (s (12 + 5 * i + 1)) (s (12 + 5 * b + 1)) ≤ nI 2)) n = n := gs_fst_none _ _ hbef
    rw [e, if_neg (Nat.lt_irrefl n)] at hk
    refine sx_go m22 60 rfl (fun VV CC hV hC => ?_)
    refine ⟨fun _ => hk I' (gb_fr.rf _ _) hb, fun (c1 : ¬ I' 19 1 ≤ nI n) => ?_⟩
    exfalso; rw [hb.1.1, hn] at c1; exact c1 (Int32.le_refl _)
  · obtain ⟨rfl, hbef⟩ := h
    have no : ¬ (¬ s (12 + 5 * k + 4) = nI 1 ∧ gs_off (s (12 + 5 * k + 1)) (s (12 + 5 * b + 1)) ≤ nI 2) → sx_V 22 (d + 3) 0 0 K 2 [(0, .ref 19), (1, .int p), (2, .int (nI k + nI 1))] [] I' (sx_run rw m ln) := by
      intro q
      have := ih I' ⟨rfl, fun i hi => by
        rcases Nat.lt_or_ge i k with q2 | q2
        · exact hbef i q2
        · have : i = k := by omega
          subst this; exact decide_eq_false q⟩
      rw [nI_succ] at this
      exact this
    refine sx_go m22 60 rfl (fun VV CC hV hC => ?_)
    refine ⟨fun (c1 : I' 19 1 ≤ nI k) => ?_, fun _ => ⟨k, ⟨rfl, by omega⟩, fun (c2 : ¬ I' 24 k = 0) => hV _ _ _ _ _ _ _ (no (fun q => ?_)), fun (c2 : I' 24 k = 0) => hC _ _ _ _ _ (c_near_19 rfl (by omega) hp hq hb hi ⟨fun (c3 : gb_near s k p = 0) => hV _ _ _ _ _ _ _ (no (fun q => ?_)), fun (c3 : ¬ gb_near s k p = 0) => ⟨k, ⟨rfl, by omega⟩, ?_⟩⟩)⟩⟩
    · exfalso; rw [hb.1.1, hn] at c1; exact nI_ge hkc (by omega) c1
    · rw [gb_up_19 hb (by omega)] at c2
      exact q.1 ((hi.2 k (by omega)).2.2.2.2.resolve_left c2)
    · unfold gb_near at c3
      rw [hpb] at q
      rw [if_neg (Int32.not_lt.mpr q.2)] at c3
      exact absurd c3 (by decide +kernel)
    · rw [gb_up_19 hb (by omega)] at c2
      have c4 : gs_off (s (12 + 5 * k + 1)) (s (12 + 5 * b + 1)) ≤ nI 2 := by
        rw [hpb]
        unfold gb_near at c3
        by_cases h : nI 2 < gs_off (s (12 + 5 * k + 1)) p
        · rw [if_pos h] at c3; exact absurd rfl c3
        · exact Int32.not_lt.mp h
      have e : gs_fst (fun i => decide (¬ s (12 + 5 * i + 4) = nI 1 ∧ gs_off (s (12 + 5 * i + 1)) (s (12 + 5 * b + 1)) ≤ nI 2)) n = k := gs_fst_at _ n k hkc hbef (decide_eq_true ⟨by rw [c2]; decide +kernel, c4⟩)
      rw [e, if_pos hkc] at hk
      exact hk _ (gb_fr.up I' 24 _ (by omega) (by omega)) (hb.set (w := 4) (by omega) (by omega) (nI 1) hT)
theorem c_first_19 {n q b : Nat} {p : Int32} (hb : gb 19 s I) (hi : gs_inv s) (hn : s 0 = nI n) (hn10 : n ≤ 10) (hT : gs_tn s) (hpb : s (12 + 5 * b + 1) = p) (hp : p = nI q) (hq : q < 20) (hk : ∀ I', gb_fr 19 I I' → gb 19 (gs_rises s n b) I' → K none I' (sx_run rw m ln)) : sx_C 22 (d + 3) [.ref 19, .int p] I (sx_run rw m ln) K := by
  refine sx_enter (by decide +kernel) (Nat.le_of_ble_eq_true rfl) (sx_go m22 60 rfl (fun VV CC hV hC => hV _ _ _ _ _ _ _ ?_))
  exact v_first_19 (d := d) hb hi hn hn10 hT hpb hp hq hk n 0 I (by omega) ⟨rfl, fun i hi => absurd hi (Nat.not_lt_zero i)⟩
theorem v_setUp_19 {n : Nat} (hi : gs_inv s) (hn : s 0 = nI n) (hn10 : n ≤ 10) (hT : gs_tn s) (hk : ∀ I', gb_fr 19 I I' → gb 19 (gs_it (gs_rise1 n) n s) I' → K none I' (sx_run rw m ln)) :
    ∀ (r k : Nat) (I' : sx_I), k + r = n → (gb_fr 19 I I' ∧ gb 19 (gs_it (gs_rise1 n) k s) I') → sx_V 21 (d + 4) 0 0 K 2 [(0, .ref 19), (1, .int (nI k))] [] I' (sx_run rw m ln) := by
  have hlo : ∀ k, k ≤ 10 → gs_lo s (gs_it (gs_rise1 n) k s) := fun k hk => gs_lo.it s k (fun k' s hk' => gs_lo.rise1 n k' s hn10)
  refine sx_for n (fun I' h => ?_) (fun k I' hkc h ih => ?_)
  · obtain ⟨hf, hb⟩ := h
    refine sx_go m21 60 rfl (fun VV CC hV hC => ?_)
    refine ⟨fun _ => hk I' hf hb, fun (c1 : ¬ I' 19 1 ≤ nI n) => ?_⟩
    exfalso; rw [hb.1.1, (hlo n hn10).1, hn] at c1; exact c1 (Int32.le_refl _)
  · obtain ⟨hf, hb⟩ := h
    have hl := hlo k (by omega)
    have hik : gs_inv (gs_it (gs_rise1 n) k s) := hi.it (fun k s _ hs => hs.rise1 n k) k (by omega)
    have no : ¬ (¬ gs_lives (gs_it (gs_rise1 n) k s (12 + 5 * k + 0)) = 0 ∧ gs_it (gs_rise1 n) k s (12 + 5 * k + 4) = nI 1) → sx_V 21 (d + 4) 0 0 K 2 [(0, .ref 19), (1, .int (nI k + nI 1))] [] I' (sx_run rw m ln) := by
      intro q
      have := ih I' ⟨hf, by rw [gs_it, gs_rise1, if_neg q]; exact hb⟩
      rw [nI_succ] at this
      exact this
    refine sx_go m21 60 rfl (fun VV CC hV hC => ?_)
    refine ⟨fun (c1 : I' 19 1 ≤ nI k) => ?_, fun _ => ⟨k, ⟨rfl, by omega⟩, fun (c2 : ¬ I' 24 k = nI 1) => hV _ _ _ _ _ _ _ (no (fun q => c2 (by rw [gb_up_19 hb (by omega)]; exact q.2))), fun (c2 : I' 24 k = nI 1) => ⟨k, ⟨rfl, by omega⟩, hC _ _ _ _ _ (c_lives1 ?_)⟩⟩⟩
    · exfalso; rw [hb.1.1, hl.1, hn] at c1; exact nI_ge hkc (by omega) c1
    · rw [gb_up_19 hb (by omega)] at c2
      rw [gb_kind_19 hb (by omega)]
      refine ⟨fun (c3 : gs_lives (gs_it (gs_rise1 n) k s (12 + 5 * k + 0)) = 0) => hV _ _ _ _ _ _ _ (no (fun q => q.1 c3)), fun (c3 : ¬ gs_lives (gs_it (gs_rise1 n) k s (12 + 5 * k + 0)) = 0) => ⟨k, ⟨rfl, by omega⟩, ?_⟩⟩
      obtain ⟨q, eq, hq⟩ := hik.post (k := k) (by omega)
      rw [gb_post_19 hb (by omega)]
      refine hC _ _ _ _ _ (c_first_19 (b := k) hb hik (hl.1.trans hn) hn10 (hl.tn hT) rfl eq hq (fun I2 h2 h3 => hV _ _ _ _ _ _ _ ?_))
      have := ih I2 ⟨hf.tr h2, by rw [gs_it, gs_rise1, if_pos ⟨c3, c2⟩]; exact h3⟩
      rw [nI_succ] at this
      exact this
theorem c_setUp_19 {n : Nat} (hb : gb 19 s I) (hi : gs_inv s) (hn : s 0 = nI n) (hn10 : n ≤ 10) (hT : gs_tn s) (hk : ∀ I', gb_fr 19 I I' → gb 19 (gs_it (gs_rise1 n) n s) I' → K none I' (sx_run rw m ln)) : sx_C 21 (d + 4) [.ref 19] I (sx_run rw m ln) K := by
  refine sx_enter (by decide +kernel) (Nat.le_of_ble_eq_true rfl) (sx_go m21 60 rfl (fun VV CC hV hC => hV _ _ _ _ _ _ _ ?_))
  exact v_setUp_19 (d := d) hi hn hn10 hT hk n 0 I (by omega) ⟨gb_fr.rf _ _, hb⟩
theorem v_wet_19 {n : Nat} (hn : s 0 = nI n) (hn10 : n ≤ 10) (hT : gs_tn s) (hk : ∀ I', gb_fr 19 I I' → gb 19 (gs_it gs_wet1 n s) I' → K none I' (sx_run rw m ln)) :
    ∀ (r k : Nat) (I' : sx_I), k + r = n → (gb_fr 19 I I' ∧ gb 19 (gs_it gs_wet1 k s) I') → sx_V 24 (d + 3) 0 0 K 2 [(0, .ref 19), (1, .int (nI k))] [] I' (sx_run rw m ln) := by
  have hlo : ∀ k, k ≤ 10 → gs_lo s (gs_it gs_wet1 k s) := fun k hk => gs_lo.it s k (fun k' s hk' => gs_lo.wet1 k' s (by omega))
  refine sx_for n (fun I' h => ?_) (fun k I' hkc h ih => ?_)
  · obtain ⟨hf, hb⟩ := h
    refine sx_go m24 60 rfl (fun VV CC hV hC => ?_)
    refine ⟨fun _ => hk I' hf hb, fun (c1 : ¬ I' 19 1 ≤ nI n) => ?_⟩
    exfalso; rw [hb.1.1, (hlo n hn10).1, hn] at c1; exact c1 (Int32.le_refl _)
  · obtain ⟨hf, hb⟩ := h
    have hl := hlo k (by omega)
    refine sx_go m24 60 rfl (fun VV CC hV hC => ?_)
    refine ⟨fun (c1 : I' 19 1 ≤ nI k) => ?_, fun _ => ⟨k, ⟨rfl, by omega⟩, hC _ _ _ _ _ (c_lives1 ?_)⟩⟩
    · exfalso; rw [hb.1.1, hl.1, hn] at c1; exact nI_ge hkc (by omega) c1
    · rw [gb_kind_19 hb (by omega)]
      refine ⟨fun (c3 : ¬ gs_lives (gs_it gs_wet1 k s (12 + 5 * k + 0)) = 0) => hV _ _ _ _ _ _ _ ?_, fun (c3 : gs_lives (gs_it gs_wet1 k s (12 + 5 * k + 0)) = 0) => ⟨k, ⟨rfl, by omega⟩, hC _ _ _ _ _ (c_held ⟨k, ⟨rfl, by omega⟩, hV _ _ _ _ _ _ _ ?_⟩)⟩⟩
      · have := ih I' ⟨hf, by rw [gs_it, gs_wet1, if_neg c3]; unfold gs_set; rw [gs_upself]; exact hb⟩
        rw [nI_succ] at this
        exact this
      · have hb2 := hb.set (k := k) (w := 2) (by omega) (by omega) (gs_wi (gs_it gs_wet1 k s (12 + 5 * k + 2) + nI 3) (nI 99)) (hl.tn hT)
        have := ih _ ⟨hf.tr (gb_fr.up I' 22 (upd (I' 22) k (gs_wi (gs_it gs_wet1 k s (12 + 5 * k + 2) + nI 3) (nI 99))) (by omega) (by omega)), by rw [gs_it, gs_wet1, if_pos c3]; exact hb2⟩
        rw [nI_succ k] at this
        rw [gb_wear_19 hb (by omega)]
        exact this
theorem c_wet_19 {n : Nat} (hb : gb 19 s I) (hn : s 0 = nI n) (hn10 : n ≤ 10) (hT : gs_tn s) (hk : ∀ I', gb_fr 19 I I' → gb 19 (gs_it gs_wet1 n s) I' → K none I' (sx_run rw m ln)) : sx_C 24 (d + 3) [.ref 19] I (sx_run rw m ln) K := by
  refine sx_enter (by decide +kernel) (Nat.le_of_ble_eq_true rfl) (sx_go m24 60 rfl (fun VV CC hV hC => hV _ _ _ _ _ _ _ ?_))
  exact v_wet_19 (d := d) hn hn10 hT hk n 0 I (by omega) ⟨gb_fr.rf _ _, hb⟩
theorem v_blow_37 {w : Int32} {n : Nat} (hn : s 0 = nI n) (hn10 : n ≤ 10) (hT : gs_tn s) (hk : ∀ I', gb_fr 37 I I' → gb 37 (gs_it (gs_blow1 w) n s) I' → K none I' (sx_run rw m ln)) :
    ∀ (r k : Nat) (I' : sx_I), k + r = n → (gb_fr 37 I I' ∧ gb 37 (gs_it (gs_blow1 w) k s) I') → sx_V 20 (d + 2) 0 0 K 2 [(0, .ref 37), (1, .int w), (2, .int (nI k))] [] I' (sx_run rw m ln) := by
  have hlo : ∀ k, k ≤ 10 → gs_lo s (gs_it (gs_blow1 w) k s) := fun k hk => gs_lo.it s k (fun k' s hk' => gs_lo.blow1 w k' s (by omega))
  refine sx_for n (fun I' h => ?_) (fun k I' hkc h ih => ?_)
  · obtain ⟨hf, hb⟩ := h
    refine sx_go m20 60 rfl (fun VV CC hV hC => ?_)
    refine ⟨fun _ => hk I' hf hb, fun (c1 : ¬ I' 37 1 ≤ nI n) => ?_⟩
    exfalso; rw [hb.1.1, (hlo n hn10).1, hn] at c1; exact c1 (Int32.le_refl _)
  · obtain ⟨hf, hb⟩ := h
    have hl := hlo k (by omega)
    have no : ¬ (gs_it (gs_blow1 w) k s (12 + 5 * k + 4) = nI 1 ∧ w < gs_falls (gs_it (gs_blow1 w) k s (12 + 5 * k + 0)) (gs_it (gs_blow1 w) k s (12 + 5 * k + 2))) → sx_V 20 (d + 2) 0 0 K 2 [(0, .ref 37), (1, .int w), (2, .int (nI k + nI 1))] [] I' (sx_run rw m ln) := by
      intro q
      have := ih I' ⟨hf, by rw [gs_it, gs_blow1, if_neg q]; exact hb⟩
      rw [nI_succ] at this
      exact this
    refine sx_go m20 60 rfl (fun VV CC hV hC => ?_)
    refine ⟨fun (c1 : I' 37 1 ≤ nI k) => ?_, fun _ => ⟨k, ⟨rfl, by omega⟩, fun (c2 : ¬ I' 42 k = nI 1) => hV _ _ _ _ _ _ _ (no (fun q => c2 (by rw [gb_up_37 hb (by omega)]; exact q.1))), fun (c2 : I' 42 k = nI 1) => ⟨k, ⟨rfl, by omega⟩, k, ⟨rfl, by omega⟩, hC _ _ _ _ _ (c_falls1 ?_)⟩⟩⟩
    · exfalso; rw [hb.1.1, hl.1, hn] at c1; exact nI_ge hkc (by omega) c1
    · rw [gb_up_37 hb (by omega)] at c2
      rw [gb_kind_37 hb (by omega), gb_wear_37 hb (by omega)]
      refine ⟨fun (c3 : gs_falls (gs_it (gs_blow1 w) k s (12 + 5 * k + 0)) (gs_it (gs_blow1 w) k s (12 + 5 * k + 2)) ≤ w) => hV _ _ _ _ _ _ _ (no (fun q => absurd q.2 (Int32.not_lt.mpr c3))), fun (c3 : ¬ gs_falls (gs_it (gs_blow1 w) k s (12 + 5 * k + 0)) (gs_it (gs_blow1 w) k s (12 + 5 * k + 2)) ≤ w) => ⟨k, ⟨rfl, by omega⟩, 0, ⟨rfl, by omega⟩, 0, ⟨rfl, by omega⟩, hV _ _ _ _ _ _ _ ?_⟩⟩
      have hb2 := hb.set (k := k) (w := 4) (by omega) (by omega) (nI 0) (hl.tn hT)
      have hb3 := hb2.toll (w := 0) (by omega) (gs_set (gs_it (gs_blow1 w) k s) k 4 (nI 0) 7 + nI 1) ((hl.tr (gs_lo.set _ k 4 (nI 0) (by omega) (by omega))).tn hT)
      have ev : (sx_up I' 42 (upd (I' 42) k (nI 0))) 44 0 = gs_set (gs_it (gs_blow1 w) k s) k 4 (nI 0) 7 := gb_toll_37 hb2 (by omega)
      have := ih _ ⟨(hf.tr (gb_fr.up I' 42 (upd (I' 42) k (nI 0)) (by omega) (by omega))).tr (gb_fr.up _ 44 (upd ((sx_up I' 42 (upd (I' 42) k (nI 0))) 44) 0 (gs_set (gs_it (gs_blow1 w) k s) k 4 (nI 0) 7 + nI 1)) (by omega) (by omega)), by rw [gs_it, gs_blow1, if_pos ⟨c2, Int32.not_le.mp c3⟩]; exact hb3⟩
      rw [nI_succ k] at this
      rw [ev]
      exact this
theorem c_blow_37 {w : Int32} {n : Nat} (hb : gb 37 s I) (hn : s 0 = nI n) (hn10 : n ≤ 10) (hT : gs_tn s) (hk : ∀ I', gb_fr 37 I I' → gb 37 (gs_it (gs_blow1 w) n s) I' → K none I' (sx_run rw m ln)) : sx_C 20 (d + 2) [.ref 37, .int w] I (sx_run rw m ln) K := by
  refine sx_enter (by decide +kernel) (Nat.le_of_ble_eq_true rfl) (sx_go m20 60 rfl (fun VV CC hV hC => hV _ _ _ _ _ _ _ ?_))
  exact v_blow_37 (d := d) hn hn10 hT hk n 0 I (by omega) ⟨gb_fr.rf _ _, hb⟩
theorem v_first_37 {n q b : Nat} {p : Int32} (hb : gb 37 s I) (hi : gs_inv s) (hn : s 0 = nI n) (hn10 : n ≤ 10) (hT : gs_tn s) (hpb : s (12 + 5 * b + 1) = p) (hp : p = nI q) (hq : q < 20) (hk : ∀ I', gb_fr 37 I I' → gb 37 (gs_rises s n b) I' → K none I' (sx_run rw m ln)) :
    ∀ (r k : Nat) (I' : sx_I), k + r = n → (I' = I ∧ ∀ i, i < k → decide (¬ s (12 + 5 * i + 4) = nI 1 ∧ gs_off (s (12 + 5 * i + 1)) (s (12 + 5 * b + 1)) ≤ nI 2) = false) → sx_V 22 (d + 3) 0 0 K 2 [(0, .ref 37), (1, .int p), (2, .int (nI k))] [] I' (sx_run rw m ln) := by
  unfold gs_rises at hk
  refine sx_for n (fun I' h => ?_) (fun k I' hkc h ih => ?_)
  · obtain ⟨rfl, hbef⟩ := h
    have e : gs_fst (fun i => decide (¬ s (12 + 5 * i + 4) = nI 1 ∧ gs_off (s (12 + 5 * i + 1)) (s (12 + 5 * b + 1)) ≤ nI 2)) n = n := gs_fst_none _ _ hbef
    rw [e, if_neg (Nat.lt_irrefl n)] at hk
    refine sx_go m22 60 rfl (fun VV CC hV hC => ?_)
    refine ⟨fun _ => hk I' (gb_fr.rf _ _) hb, fun (c1 : ¬ I' 37 1 ≤ nI n) => ?_⟩
    exfalso; rw [hb.1.1, hn] at c1; exact c1 (Int32.le_refl _)
  · obtain ⟨rfl, hbef⟩ := h
    have no : ¬ (¬ s (12 + 5 * k + 4) = nI 1 ∧ gs_off (s (12 + 5 * k + 1)) (s (12 + 5 * b + 1)) ≤ nI 2) → sx_V 22 (d + 3) 0 0 K 2 [(0, .ref 37), (1, .int p), (2, .int (nI k + nI 1))] [] I' (sx_run rw m ln) := by
      intro q
      have := ih I' ⟨rfl, fun i hi => by
        rcases Nat.lt_or_ge i k with q2 | q2
        · exact hbef i q2
        · have : i = k := by omega
          subst this; exact decide_eq_false q⟩
      rw [nI_succ] at this
      exact this
    refine sx_go m22 60 rfl (fun VV CC hV hC => ?_)
    refine ⟨fun (c1 : I' 37 1 ≤ nI k) => ?_, fun _ => ⟨k, ⟨rfl, by omega⟩, fun (c2 : ¬ I' 42 k = 0) => hV _ _ _ _ _ _ _ (no (fun q => ?_)), fun (c2 : I' 42 k = 0) => hC _ _ _ _ _ (c_near_37 rfl (by omega) hp hq hb hi ⟨fun (c3 : gb_near s k p = 0) => hV _ _ _ _ _ _ _ (no (fun q => ?_)), fun (c3 : ¬ gb_near s k p = 0) => ⟨k, ⟨rfl, by omega⟩, ?_⟩⟩)⟩⟩
    · exfalso; rw [hb.1.1, hn] at c1; exact nI_ge hkc (by omega) c1
    · rw [gb_up_37 hb (by omega)] at c2
      exact q.1 ((hi.2 k (by omega)).2.2.2.2.resolve_left c2)
    · unfold gb_near at c3
      rw [hpb] at q
      rw [if_neg (Int32.not_lt.mpr q.2)] at c3
      exact absurd c3 (by decide +kernel)
    · rw [gb_up_37 hb (by omega)] at c2
      have c4 : gs_off (s (12 + 5 * k + 1)) (s (12 + 5 * b + 1)) ≤ nI 2 := by
        rw [hpb]
        unfold gb_near at c3
        by_cases h : nI 2 < gs_off (s (12 + 5 * k + 1)) p
        · rw [if_pos h] at c3; exact absurd rfl c3
        · exact Int32.not_lt.mp h
      have e : gs_fst (fun i => decide (¬ s (12 + 5 * i + 4) = nI 1 ∧ gs_off (s (12 + 5 * i + 1)) (s (12 + 5 * b + 1)) ≤ nI 2)) n = k := gs_fst_at _ n k hkc hbef (decide_eq_true ⟨by rw [c2]; decide +kernel, c4⟩)
      rw [e, if_pos hkc] at hk
      exact hk _ (gb_fr.up I' 42 _ (by omega) (by omega)) (hb.set (w := 4) (by omega) (by omega) (nI 1) hT)
theorem c_first_37 {n q b : Nat} {p : Int32} (hb : gb 37 s I) (hi : gs_inv s) (hn : s 0 = nI n) (hn10 : n ≤ 10) (hT : gs_tn s) (hpb : s (12 + 5 * b + 1) = p) (hp : p = nI q) (hq : q < 20) (hk : ∀ I', gb_fr 37 I I' → gb 37 (gs_rises s n b) I' → K none I' (sx_run rw m ln)) : sx_C 22 (d + 3) [.ref 37, .int p] I (sx_run rw m ln) K := by
  refine sx_enter (by decide +kernel) (Nat.le_of_ble_eq_true rfl) (sx_go m22 60 rfl (fun VV CC hV hC => hV _ _ _ _ _ _ _ ?_))
  exact v_first_37 (d := d) hb hi hn hn10 hT hpb hp hq hk n 0 I (by omega) ⟨rfl, fun i hi => absurd hi (Nat.not_lt_zero i)⟩
theorem v_setUp_37 {n : Nat} (hi : gs_inv s) (hn : s 0 = nI n) (hn10 : n ≤ 10) (hT : gs_tn s) (hk : ∀ I', gb_fr 37 I I' → gb 37 (gs_it (gs_rise1 n) n s) I' → K none I' (sx_run rw m ln)) :
    ∀ (r k : Nat) (I' : sx_I), k + r = n → (gb_fr 37 I I' ∧ gb 37 (gs_it (gs_rise1 n) k s) I') → sx_V 21 (d + 4) 0 0 K 2 [(0, .ref 37), (1, .int (nI k))] [] I' (sx_run rw m ln) := by
  have hlo : ∀ k, k ≤ 10 → gs_lo s (gs_it (gs_rise1 n) k s) := fun k hk => gs_lo.it s k (fun k' s hk' => gs_lo.rise1 n k' s hn10)
  refine sx_for n (fun I' h => ?_) (fun k I' hkc h ih => ?_)
  · obtain ⟨hf, hb⟩ := h
    refine sx_go m21 60 rfl (fun VV CC hV hC => ?_)
    refine ⟨fun _ => hk I' hf hb, fun (c1 : ¬ I' 37 1 ≤ nI n) => ?_⟩
    exfalso; rw [hb.1.1, (hlo n hn10).1, hn] at c1; exact c1 (Int32.le_refl _)
  · obtain ⟨hf, hb⟩ := h
    have hl := hlo k (by omega)
    have hik : gs_inv (gs_it (gs_rise1 n) k s) := hi.it (fun k s _ hs => hs.rise1 n k) k (by omega)
    have no : ¬ (¬ gs_lives (gs_it (gs_rise1 n) k s (12 + 5 * k + 0)) = 0 ∧ gs_it (gs_rise1 n) k s (12 + 5 * k + 4) = nI 1) → sx_V 21 (d + 4) 0 0 K 2 [(0, .ref 37), (1, .int (nI k + nI 1))] [] I' (sx_run rw m ln) := by
      intro q
      have := ih I' ⟨hf, by rw [gs_it, gs_rise1, if_neg q]; exact hb⟩
      rw [nI_succ] at this
      exact this
    refine sx_go m21 60 rfl (fun VV CC hV hC => ?_)
    refine ⟨fun (c1 : I' 37 1 ≤ nI k) => ?_, fun _ => ⟨k, ⟨rfl, by omega⟩, fun (c2 : ¬ I' 42 k = nI 1) => hV _ _ _ _ _ _ _ (no (fun q => c2 (by rw [gb_up_37 hb (by omega)]; exact q.2))), fun (c2 : I' 42 k = nI 1) => ⟨k, ⟨rfl, by omega⟩, hC _ _ _ _ _ (c_lives1 ?_)⟩⟩⟩
    · exfalso; rw [hb.1.1, hl.1, hn] at c1; exact nI_ge hkc (by omega) c1
    · rw [gb_up_37 hb (by omega)] at c2
      rw [gb_kind_37 hb (by omega)]
      refine ⟨fun (c3 : gs_lives (gs_it (gs_rise1 n) k s (12 + 5 * k + 0)) = 0) => hV _ _ _ _ _ _ _ (no (fun q => q.1 c3)), fun (c3 : ¬ gs_lives (gs_it (gs_rise1 n) k s (12 + 5 * k + 0)) = 0) => ⟨k, ⟨rfl, by omega⟩, ?_⟩⟩
      obtain ⟨q, eq, hq⟩ := hik.post (k := k) (by omega)
      rw [gb_post_37 hb (by omega)]
      refine hC _ _ _ _ _ (c_first_37 (b := k) hb hik (hl.1.trans hn) hn10 (hl.tn hT) rfl eq hq (fun I2 h2 h3 => hV _ _ _ _ _ _ _ ?_))
      have := ih I2 ⟨hf.tr h2, by rw [gs_it, gs_rise1, if_pos ⟨c3, c2⟩]; exact h3⟩
      rw [nI_succ] at this
      exact this
theorem c_setUp_37 {n : Nat} (hb : gb 37 s I) (hi : gs_inv s) (hn : s 0 = nI n) (hn10 : n ≤ 10) (hT : gs_tn s) (hk : ∀ I', gb_fr 37 I I' → gb 37 (gs_it (gs_rise1 n) n s) I' → K none I' (sx_run rw m ln)) : sx_C 21 (d + 4) [.ref 37] I (sx_run rw m ln) K := by
  refine sx_enter (by decide +kernel) (Nat.le_of_ble_eq_true rfl) (sx_go m21 60 rfl (fun VV CC hV hC => hV _ _ _ _ _ _ _ ?_))
  exact v_setUp_37 (d := d) hi hn hn10 hT hk n 0 I (by omega) ⟨gb_fr.rf _ _, hb⟩
theorem v_wet_37 {n : Nat} (hn : s 0 = nI n) (hn10 : n ≤ 10) (hT : gs_tn s) (hk : ∀ I', gb_fr 37 I I' → gb 37 (gs_it gs_wet1 n s) I' → K none I' (sx_run rw m ln)) :
    ∀ (r k : Nat) (I' : sx_I), k + r = n → (gb_fr 37 I I' ∧ gb 37 (gs_it gs_wet1 k s) I') → sx_V 24 (d + 3) 0 0 K 2 [(0, .ref 37), (1, .int (nI k))] [] I' (sx_run rw m ln) := by
  have hlo : ∀ k, k ≤ 10 → gs_lo s (gs_it gs_wet1 k s) := fun k hk => gs_lo.it s k (fun k' s hk' => gs_lo.wet1 k' s (by omega))
  refine sx_for n (fun I' h => ?_) (fun k I' hkc h ih => ?_)
  · obtain ⟨hf, hb⟩ := h
    refine sx_go m24 60 rfl (fun VV CC hV hC => ?_)
    refine ⟨fun _ => hk I' hf hb, fun (c1 : ¬ I' 37 1 ≤ nI n) => ?_⟩
    exfalso; rw [hb.1.1, (hlo n hn10).1, hn] at c1; exact c1 (Int32.le_refl _)
  · obtain ⟨hf, hb⟩ := h
    have hl := hlo k (by omega)
    refine sx_go m24 60 rfl (fun VV CC hV hC => ?_)
    refine ⟨fun (c1 : I' 37 1 ≤ nI k) => ?_, fun _ => ⟨k, ⟨rfl, by omega⟩, hC _ _ _ _ _ (c_lives1 ?_)⟩⟩
    · exfalso; rw [hb.1.1, hl.1, hn] at c1; exact nI_ge hkc (by omega) c1
    · rw [gb_kind_37 hb (by omega)]
      refine ⟨fun (c3 : ¬ gs_lives (gs_it gs_wet1 k s (12 + 5 * k + 0)) = 0) => hV _ _ _ _ _ _ _ ?_, fun (c3 : gs_lives (gs_it gs_wet1 k s (12 + 5 * k + 0)) = 0) => ⟨k, ⟨rfl, by omega⟩, hC _ _ _ _ _ (c_held ⟨k, ⟨rfl, by omega⟩, hV _ _ _ _ _ _ _ ?_⟩)⟩⟩
      · have := ih I' ⟨hf, by rw [gs_it, gs_wet1, if_neg c3]; unfold gs_set; rw [gs_upself]; exact hb⟩
        rw [nI_succ] at this
        exact this
      · have hb2 := hb.set (k := k) (w := 2) (by omega) (by omega) (gs_wi (gs_it gs_wet1 k s (12 + 5 * k + 2) + nI 3) (nI 99)) (hl.tn hT)
        have := ih _ ⟨hf.tr (gb_fr.up I' 40 (upd (I' 40) k (gs_wi (gs_it gs_wet1 k s (12 + 5 * k + 2) + nI 3) (nI 99))) (by omega) (by omega)), by rw [gs_it, gs_wet1, if_pos c3]; exact hb2⟩
        rw [nI_succ k] at this
        rw [gb_wear_37 hb (by omega)]
        exact this
theorem c_wet_37 {n : Nat} (hb : gb 37 s I) (hn : s 0 = nI n) (hn10 : n ≤ 10) (hT : gs_tn s) (hk : ∀ I', gb_fr 37 I I' → gb 37 (gs_it gs_wet1 n s) I' → K none I' (sx_run rw m ln)) : sx_C 24 (d + 3) [.ref 37] I (sx_run rw m ln) K := by
  refine sx_enter (by decide +kernel) (Nat.le_of_ble_eq_true rfl) (sx_go m24 60 rfl (fun VV CC hV hC => hV _ _ _ _ _ _ _ ?_))
  exact v_wet_37 (d := d) hn hn10 hT hk n 0 I (by omega) ⟨gb_fr.rf _ _, hb⟩
end
