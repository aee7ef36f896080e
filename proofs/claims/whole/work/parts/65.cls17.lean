/-! ===== the class: a slot laid; bytes onto the tape ===== -/
section
variable {d m : Nat} {I : sx_I} {rw : Nat → Nat → Option Nat} {ln : Nat → Nat} {K : sx_K} {s S Z R H N W Sz Rw : Nat → Int32}
theorem gb_fiv {P : Nat → Prop} (h0 : P 0) (h1 : P 1) (h2 : P 2) (h3 : P 3) (h4 : P 4) : ∀ w, w < 5 → P w := gb_five h0 h1 h2 h3 h4
theorem c1_ask {a k : Int32} (hl : gl H N W Sz Rw I) (hk : K (some (.int (gs_askA H N W a k))) I (sx_run rw m ln)) : sx_C 93 (d + 3) [.ref 15, .int a, .int k] I (sx_run rw m ln) K := by
  by_cases c1 : gs_in a 0 (nI 4) = 0
  · have e : gs_askA H N W a k = -1000000001 := if_pos (Or.inl c1)
    rw [e] at hk
    refine sx_enter (by decide +kernel) (Nat.le_of_ble_eq_true rfl) (sx_go m93 100 rfl (fun VV CC hV hC => ?_))
    exact hC _ _ _ _ _ (c_isSlot1 ⟨fun _ => hk, fun (q : ¬ gs_in a 0 (nI 4) = 0) => absurd c1 q⟩)
  · obtain ⟨j, rfl, _, h3⟩ := gs_in_nat (a := 0) (by decide) c1 (by decide)
    have : j = 0 ∨ j = 1 ∨ j = 2 ∨ j = 3 ∨ j = 4 := by omega
    rcases this with rfl | rfl | rfl | rfl | rfl
    · exact c1_ask_63 hl hk
    · exact c1_ask_66 hl hk
    · exact c1_ask_69 hl hk
    · exact c1_ask_72 hl hk
    · exact c1_ask_75 hl hk
theorem c1_rest {a v : Int32} (hl : gl H N W Sz Rw I) (hk : K (some (.int (gs_rest H N a v))) I (sx_run rw m ln)) : sx_C 95 (d + 3) [.ref 15, .int a, .int v] I (sx_run rw m ln) K := by
  by_cases c1 : gs_in a 0 (nI 4) = 0
  · have e : gs_rest H N a v = -1000000001 := if_pos c1
    rw [e] at hk
    refine sx_enter (by decide +kernel) (Nat.le_of_ble_eq_true rfl) (sx_go m95 100 rfl (fun VV CC hV hC => ?_))
    exact hC _ _ _ _ _ (c_isSlot1 ⟨fun (q : ¬ gs_in a 0 (nI 4) = 0) => absurd c1 q, fun _ => hk⟩)
  · obtain ⟨j, rfl, _, h3⟩ := gs_in_nat (a := 0) (by decide) c1 (by decide)
    have : j = 0 ∨ j = 1 ∨ j = 2 ∨ j = 3 ∨ j = 4 := by omega
    rcases this with rfl | rfl | rfl | rfl | rfl
    · exact c1_rest_63 hl hk
    · exact c1_rest_66 hl hk
    · exact c1_rest_69 hl hk
    · exact c1_rest_72 hl hk
    · exact c1_rest_75 hl hk
theorem c1_item {a p : Int32} (hl : gl H N W Sz Rw I) (ho : gl_ok H Sz) (hk : K (some (.int (gs_item H Sz Rw a p))) I (sx_run rw m ln)) : sx_C 94 (d + 3) [.ref 15, .int a, .int p] I (sx_run rw m ln) K := by
  by_cases c1 : gs_in a 0 (nI 4) = 0
  · have e : gs_item H Sz Rw a p = -1000000001 := if_pos c1
    rw [e] at hk
    refine sx_enter (by decide +kernel) (Nat.le_of_ble_eq_true rfl) (sx_go m94 100 rfl (fun VV CC hV hC => ?_))
    exact hC _ _ _ _ _ (c_isSlot1 ⟨fun (q : ¬ gs_in a 0 (nI 4) = 0) => absurd c1 q, fun _ => hk⟩)
  · obtain ⟨j, rfl, _, h3⟩ := gs_in_nat (a := 0) (by decide) c1 (by decide)
    have : j = 0 ∨ j = 1 ∨ j = 2 ∨ j = 3 ∨ j = 4 := by omega
    rcases this with rfl | rfl | rfl | rfl | rfl
    · exact c1_item_63 hl ho hk
    · exact c1_item_66 hl ho hk
    · exact c1_item_69 hl ho hk
    · exact c1_item_72 hl ho hk
    · exact c1_item_75 hl ho hk
theorem v1_lay65 {a : Nat} {t k : Int32} (hb : gb 19 s I) (hi : gs_inv s) (hg : gh S Z R I) (hl : gl H N W Sz Rw I) (ht : t = 0 ∨ t = nI 1 ∨ t = nI 2 ∨ t = nI 3) (h1 : t = nI 1 → ∃ j, k = nI j ∧ j < 10) (h2 : t = nI 2 → ∃ j, k = nI j ∧ j < 4) (ha : a < 5)
    (hk : ∀ J, (∀ q, (q < 63 ∨ 77 < q) → J q = I q) → gl (upd H a t) (upd N a (if t = nI 1 then s (12 + 5 * k.toNatClampNeg + 0) else k)) (upd W a (if t = nI 1 then gs_worth (s (12 + 5 * k.toNatClampNeg + 0)) (s (12 + 5 * k.toNatClampNeg + 2)) else nI 0)) (if t = nI 2 then upd Sz a (Z k.toNatClampNeg) else Sz) (if t = nI 2 then gs_tp Rw (24 * a) (fun i => R (24 * k.toNatClampNeg + i)) 24 else Rw) J → K (some (.int (H a))) J (sx_run rw m ln)) :
    sx_V 92 (d + 2) 0 0 K 65 [(0, .ref 15), (1, .int (nI a)), (2, .int t), (3, .int k)] [] I (sx_run rw m ln) := by
  have eZ : (if t = nI 2 then upd Sz a (Z k.toNatClampNeg) else Sz) = upd Sz a (if t = nI 2 then Z k.toNatClampNeg else Sz a) := by
    by_cases c : t = nI 2
    · rw [if_pos c, if_pos c]
    · rw [if_neg c, if_neg c, gs_upself]
  rw [eZ] at hk
  have key : ∀ J : sx_I, (∀ q, q ≠ 63 + 3 * a → q ≠ 64 + 3 * a → q ≠ 65 + 3 * a → J q = I q) → gl1 a t (if t = nI 1 then s (12 + 5 * k.toNatClampNeg + 0) else k) (if t = nI 1 then gs_worth (s (12 + 5 * k.toNatClampNeg + 0)) (s (12 + 5 * k.toNatClampNeg + 2)) else nI 0) (Z k.toNatClampNeg) (fun i => R (24 * k.toNatClampNeg + i)) J → K (some (.int (H a))) J (sx_run rw m ln) := by
    intro J f g
    refine hk J (fun q hq => f q (by omega) (by omega) (by omega)) (gl.set hl ha (fun q hq => f q (by omega) (by omega) (by omega)) ⟨g.1, g.2.1, fun c => ?_, g.2.2.2⟩ (fun i hi => ?_))
    · rw [if_pos c]
      refine ⟨(g.2.2.1 c).1, fun i hi => ((g.2.2.1 c).2 i hi).trans ?_⟩
      show _ = (if t = nI 2 then gs_tp Rw (24 * a) (fun i => R (24 * k.toNatClampNeg + i)) 24 else Rw) (24 * a + i)
      rw [if_pos c, gs_tp_at, if_pos (by omega)]
      congr 2; omega
    · by_cases c : t = nI 2
      · rw [if_pos c, gs_tp_at, if_neg (by omega)]
      · rw [if_neg c]
  have h0 := (hl a ha).1
  have ca : a = 0 ∨ a = 1 ∨ a = 2 ∨ a = 3 ∨ a = 4 := by omega
  rcases ca with rfl | rfl | rfl | rfl | rfl
  · exact v1_lay_63 hb hi hg ht h1 h2 (fun J f g => sx_kk h0 (key J f g))
  · exact v1_lay_66 hb hi hg ht h1 h2 (fun J f g => sx_kk h0 (key J f g))
  · exact v1_lay_69 hb hi hg ht h1 h2 (fun J f g => sx_kk h0 (key J f g))
  · exact v1_lay_72 hb hi hg ht h1 h2 (fun J f g => sx_kk h0 (key J f g))
  · exact v1_lay_75 hb hi hg ht h1 h2 (fun J f g => sx_kk h0 (key J f g))
theorem v1_lay44 {a : Nat} {t k : Int32} (hb : gb 19 s I) (hi : gs_inv s) (hg : gh S Z R I) (ho : gh_ok S Z R) (hl : gl H N W Sz Rw I) (ht : t = 0 ∨ t = nI 1 ∨ t = nI 2 ∨ t = nI 3) (h1 : t = nI 1 → ∃ j, k = nI j ∧ j < 10) (h2 : t = nI 2 → ∃ j, k = nI j ∧ j < 4) (ha : a < 5)
    (hn : (t = nI 2 ∧ S k.toNatClampNeg < 0) → K (some (.int (-1000000011))) I (sx_run rw m ln))
    (hk : ¬ (t = nI 2 ∧ S k.toNatClampNeg < 0) → ∀ J, (∀ q, (q < 63 ∨ 77 < q) → J q = I q) → gl (upd H a t) (upd N a (if t = nI 1 then s (12 + 5 * k.toNatClampNeg + 0) else k)) (upd W a (if t = nI 1 then gs_worth (s (12 + 5 * k.toNatClampNeg + 0)) (s (12 + 5 * k.toNatClampNeg + 2)) else nI 0)) (if t = nI 2 then upd Sz a (Z k.toNatClampNeg) else Sz) (if t = nI 2 then gs_tp Rw (24 * a) (fun i => R (24 * k.toNatClampNeg + i)) 24 else Rw) J → K (some (.int (H a))) J (sx_run rw m ln)) :
    sx_V 92 (d + 2) 0 0 K 44 [(0, .ref 15), (1, .int (nI a)), (2, .int t), (3, .int k)] [] I (sx_run rw m ln) := by
  have go : ¬ (t = nI 2 ∧ S k.toNatClampNeg < 0) → sx_V 92 (d + 2) 0 0 K 65 [(0, .ref 15), (1, .int (nI a)), (2, .int t), (3, .int k)] [] I (sx_run rw m ln) := fun h => v1_lay65 hb hi hg hl ht h1 h2 ha (hk h)
  refine sx_go m92 100 rfl (fun VV CC hV hC => ?_)
  refine ⟨fun (c1 : ¬ t = nI 2) => hV _ _ _ _ _ _ _ (go (fun h => c1 h.1)), fun (c1 : t = nI 2) => ?_⟩
  obtain ⟨j, rfl, hj⟩ := h2 c1
  rw [nI_clamp (by omega)] at hn go
  have hneg := gh_S ho hj
  have cj : j = 0 ∨ j = 1 ∨ j = 2 ∨ j = 3 := by omega
  rcases cj with rfl | rfl | rfl | rfl
  · refine ⟨0, ⟨rfl, by omega⟩, fun b (eb : some 55 = some b) => ?_, fun (eb : some 55 = none) => by cases eb⟩
    cases eb
    have g0 : I 55 0 = S 0 := (hg 0 (by omega)).1
    exact ⟨fun (c2 : ¬ I 55 0 = -1) => hV _ _ _ _ _ _ _ (go (fun h => c2 (g0.trans (hneg.mp h.2)))), fun (c2 : I 55 0 = -1) => hn ⟨c1, hneg.mpr (g0.symm.trans c2)⟩⟩
  · refine ⟨1, ⟨rfl, by omega⟩, fun b (eb : some 57 = some b) => ?_, fun (eb : some 57 = none) => by cases eb⟩
    cases eb
    have g0 : I 57 0 = S 1 := (hg 1 (by omega)).1
    exact ⟨fun (c2 : ¬ I 57 0 = -1) => hV _ _ _ _ _ _ _ (go (fun h => c2 (g0.trans (hneg.mp h.2)))), fun (c2 : I 57 0 = -1) => hn ⟨c1, hneg.mpr (g0.symm.trans c2)⟩⟩
  · refine ⟨2, ⟨rfl, by omega⟩, fun b (eb : some 59 = some b) => ?_, fun (eb : some 59 = none) => by cases eb⟩
    cases eb
    have g0 : I 59 0 = S 2 := (hg 2 (by omega)).1
    exact ⟨fun (c2 : ¬ I 59 0 = -1) => hV _ _ _ _ _ _ _ (go (fun h => c2 (g0.trans (hneg.mp h.2)))), fun (c2 : I 59 0 = -1) => hn ⟨c1, hneg.mpr (g0.symm.trans c2)⟩⟩
  · refine ⟨3, ⟨rfl, by omega⟩, fun b (eb : some 61 = some b) => ?_, fun (eb : some 61 = none) => by cases eb⟩
    cases eb
    have g0 : I 61 0 = S 3 := (hg 3 (by omega)).1
    exact ⟨fun (c2 : ¬ I 61 0 = -1) => hV _ _ _ _ _ _ _ (go (fun h => c2 (g0.trans (hneg.mp h.2)))), fun (c2 : I 61 0 = -1) => hn ⟨c1, hneg.mpr (g0.symm.trans c2)⟩⟩
theorem v1_lay29 {t k : Int32} {L : sx_L} (hL : L = [(0, .ref 15), (1, .int (nI 0)), (2, .int t), (3, .int k)] → True) (a : Int32) (hbad : (t = nI 2 ∧ gs_in k 0 (nI 3) = 0) → K (some (.int (-1000000001))) I (sx_run rw m ln)) (hgo : ¬ (t = nI 2 ∧ gs_in k 0 (nI 3) = 0) → sx_V 92 (d + 3) 0 0 K 44 [(0, .ref 15), (1, .int a), (2, .int t), (3, .int k)] [] I (sx_run rw m ln)) :
    sx_V 92 (d + 3) 0 0 K 29 [(0, .ref 15), (1, .int a), (2, .int t), (3, .int k)] [] I (sx_run rw m ln) := by
  refine sx_go m92 100 rfl (fun VV CC hV hC => ?_)
  exact ⟨fun (c1 : ¬ t = nI 2) => hV _ _ _ _ _ _ _ (hgo (fun h => c1 h.1)), fun (c1 : t = nI 2) => hC _ _ _ _ _ (c_isSheet1 ⟨fun (c2 : ¬ gs_in k 0 (nI 3) = 0) => hV _ _ _ _ _ _ _ (hgo (fun h => c2 h.2)), fun (c2 : gs_in k 0 (nI 3) = 0) => hbad ⟨c1, c2⟩⟩)⟩
theorem c1_lay {a t k : Int32} (hb : gb 19 s I) (hi : gs_inv s) (hg : gh S Z R I) (ho : gh_ok S Z R) (hl : gl H N W Sz Rw I) (hbad : (gs_in a 0 (nI 4) = 0 ∨ ¬ gs_layGood s t k) → K (some (.int (-1000000001))) I (sx_run rw m ln)) (hn : ¬ gs_in a 0 (nI 4) = 0 → gs_layGood s t k → (t = nI 2 ∧ S k.toNatClampNeg < 0) → K (some (.int (-1000000011))) I (sx_run rw m ln))
    (hk : ∀ j J, a = nI j → j < 5 → gs_layGood s t k → ¬ (t = nI 2 ∧ S k.toNatClampNeg < 0) → (∀ q, (q < 63 ∨ 77 < q) → J q = I q) → gl (upd H j t) (upd N j (if t = nI 1 then s (12 + 5 * k.toNatClampNeg + 0) else k)) (upd W j (if t = nI 1 then gs_worth (s (12 + 5 * k.toNatClampNeg + 0)) (s (12 + 5 * k.toNatClampNeg + 2)) else nI 0)) (if t = nI 2 then upd Sz j (Z k.toNatClampNeg) else Sz) (if t = nI 2 then gs_tp Rw (24 * j) (fun i => R (24 * k.toNatClampNeg + i)) 24 else Rw) J → K (some (.int (H j))) J (sx_run rw m ln)) :
    sx_C 92 (d + 3) [.ref 15, .int a, .int t, .int k] I (sx_run rw m ln) K := by
  obtain ⟨⟨n, hn0, hn10⟩, -⟩ := id hi
  have lit : ∀ a b, a < 4 → b < 4 → nI a = nI b → a = b := fun a b h h' e => (nI_eq (by omega) (by omega)).mp e
  refine sx_enter (by decide +kernel) (Nat.le_of_ble_eq_true rfl) (sx_go m92 100 rfl (fun VV CC hV hC => ?_))
  refine hC _ _ _ _ _ (c_isSlot1 ⟨fun (c1 : gs_in a 0 (nI 4) = 0) => hbad (Or.inl c1), fun (c1 : ¬ gs_in a 0 (nI 4) = 0) => hC _ _ _ _ _ (c_isWithin ⟨fun (c2 : gs_in t (nI 0) (nI 3) = 0) => hbad (Or.inr ?_), fun (c2 : ¬ gs_in t (nI 0) (nI 3) = 0) => ?_⟩)⟩)
  · rintro (h | h | h | h)
    · rw [h] at c2; exact gs_in_c (c := 0) (b := 3) (by omega) (by omega) c2
    · rw [h] at c2; exact gs_in_c (c := 3) (b := 3) (by omega) (by omega) c2
    · rw [h.1] at c2; exact gs_in_c (c := 1) (b := 3) (by omega) (by omega) c2
    · rw [h.1] at c2; exact gs_in_c (c := 2) (b := 3) (by omega) (by omega) c2
  · obtain ⟨j, rfl, -, hj⟩ := gs_in_nat (a := 0) (by omega) c1 (by decide)
    obtain ⟨c, rfl, -, hc⟩ := gs_in_nat (a := 0) (by omega) c2 (by decide)
    have ht : nI c = 0 ∨ nI c = nI 1 ∨ nI c = nI 2 ∨ nI c = nI 3 := by
      have : c = 0 ∨ c = 1 ∨ c = 2 ∨ c = 3 := by omega
      rcases this with rfl | rfl | rfl | rfl
      · exact Or.inl rfl
      · exact Or.inr (Or.inl rfl)
      · exact Or.inr (Or.inr (Or.inl rfl))
      · exact Or.inr (Or.inr (Or.inr rfl))
    have good : gs_layGood s (nI c) k → sx_V 92 (d + 3) 0 0 K 44 [(0, .ref 15), (1, .int (nI j)), (2, .int (nI c)), (3, .int k)] [] I (sx_run rw m ln) := by
      intro hgood
      refine v1_lay44 (d := d + 1) hb hi hg ho hl ht (fun e => ?_) (fun e => ?_) (by omega) (hn c1 hgood) (fun h J => hk j J rfl (by omega) hgood h)
      · rcases hgood with h | h | h | h
        · rw [e] at h; exact absurd h (by decide +kernel)
        · rw [e] at h; exact absurd h (by decide +kernel)
        · obtain ⟨i, h4, h5⟩ := gs_guard hn0 hn10 h.2
          exact ⟨i, h4, by omega⟩
        · rw [e] at h; exact absurd h.1 (by decide +kernel)
      · rcases hgood with h | h | h | h
        · rw [e] at h; exact absurd h (by decide +kernel)
        · rw [e] at h; exact absurd h (by decide +kernel)
        · rw [e] at h; exact absurd h.1 (by decide +kernel)
        · obtain ⟨i, h4, _, h5⟩ := gs_in_nat (a := 0) (by decide) h.2 (by decide)
          exact ⟨i, h4, by omega⟩
    have go29 : (nI c = nI 1 → ¬ gs_in k 0 (s 0 - nI 1) = 0) → sx_V 92 (d + 3) 0 0 K 29 [(0, .ref 15), (1, .int (nI j)), (2, .int (nI c)), (3, .int k)] [] I (sx_run rw m ln) := by
      intro h1
      refine v1_lay29 (L := []) (fun _ => trivial) (nI j) (fun h => hbad (Or.inr ?_)) (fun h => good ?_)
      · rintro (q | q | q | q)
        · rw [h.1] at q; exact absurd q (by decide +kernel)
        · rw [h.1] at q; exact absurd q (by decide +kernel)
        · rw [h.1] at q; exact absurd q.1 (by decide +kernel)
        · exact q.2 h.2
      · rcases ht with q | q | q | q
        · exact Or.inl q
        · exact Or.inr (Or.inr (Or.inl ⟨q, h1 q⟩))
        · exact Or.inr (Or.inr (Or.inr ⟨q, fun z => h ⟨q, z⟩⟩))
        · exact Or.inr (Or.inl q)
    refine ⟨fun (c3 : ¬ nI c = nI 1) => hV _ _ _ _ _ _ _ (go29 (fun h => absurd h c3)), fun (c3 : nI c = nI 1) => hC _ _ _ _ _ (c_isGuard1 hb.1.1 ⟨fun (c4 : gs_in k 0 (s 0 - nI 1) = 0) => hbad (Or.inr ?_), fun (c4 : ¬ gs_in k 0 (s 0 - nI 1) = 0) => hV _ _ _ _ _ _ _ (go29 (fun _ => c4))⟩)⟩
    rintro (q | q | q | q)
    · rw [c3] at q; exact absurd q (by decide +kernel)
    · rw [c3] at q; exact absurd q (by decide +kernel)
    · exact q.2 c4
    · rw [c3] at q; exact absurd q.1 (by decide +kernel)
/-- the byte that stands at place q of a number's four -/
def gt_cb (v : Int32) (q : Nat) : Int32 := ((v.toUInt32 >>> ((nI 24 - nI (8 * q)).toUInt32 &&& Int32.toUInt32 31)).toInt32).toInt8.toInt32
theorem gt_bb (y : Int8) : y.toInt32.toInt8.toInt32 = y.toInt32 := by simp
theorem v_tape {v : Int32} {t : Nat} (ht : t + 4 ≤ 96) (hk : ∀ J, (∀ a, a ≠ 15 → a ≠ 50 → J a = I a) → J 15 = upd (I 15) 7 (nI (t + 4)) → (∀ i, (i < t ∨ t + 4 ≤ i) → J 50 i = I 50 i) → (∀ q, q < 4 → J 50 (t + q) = gt_cb v q) → K none J (sx_run rw m ln)) :
    ∀ (r q : Nat) (J : sx_I), q + r = 4 → ((∀ a, a ≠ 15 → a ≠ 50 → J a = I a) ∧ J 15 = upd (I 15) 7 (nI (t + q)) ∧ (∀ i, (i < t ∨ t + q ≤ i) → J 50 i = I 50 i) ∧ ∀ p, p < q → J 50 (t + p) = gt_cb v p) → sx_V 111 (d + 1) 0 0 K 3 [(0, .ref 15), (1, .int v), (2, .int (nI 24 - nI (8 * q)))] [] J (sx_run rw m ln) := by
  refine sx_for 4 (fun J h => ?_) (fun q J hq h ih => ?_)
  · refine sx_go m111 60 rfl (fun VV CC hV hC => ?_)
    exact ⟨fun _ => hk J h.1 h.2.1 h.2.2.1 h.2.2.2, fun (c1 : ¬ nI 24 - nI (8 * 4) < 0) => absurd (by decide +kernel) c1⟩
  · obtain ⟨h1, h2, h3, h4⟩ := h
    have e7 : J 15 7 = nI (t + q) := by rw [h2, pk_us]
    have es : nI 24 - nI (8 * q) + -8 = nI 24 - nI (8 * (q + 1)) := by
      have : q = 0 ∨ q = 1 ∨ q = 2 ∨ q = 3 := by omega
      rcases this with rfl | rfl | rfl | rfl <;> decide +kernel
    refine sx_go m111 60 rfl (fun VV CC hV hC => ?_)
    refine ⟨fun (c1 : nI 24 - nI (8 * q) < 0) => absurd c1 (by rw [pk_sub (by omega)]; exact nI_pos (by omega)), fun _ => ⟨fun (c2 : nI 96 ≤ J 15 7) => ?_, fun _ => ⟨t + q, ⟨e7, by omega⟩, hV _ _ _ _ _ _ _ ?_⟩⟩⟩
    · exfalso; rw [e7] at c2; exact nI_ge (show t + q < 96 by omega) (by omega) c2
    · have := ih (sx_up (sx_up J 50 (upd (J 50) (t + q) (gt_cb v q))) 15 (upd (J 15) 7 (nI (t + q) + nI 1))) ⟨fun a a1 a2 => by rw [sx_up_ne a1, sx_up_ne a2]; exact h1 a a1 a2, ?_, fun i hi => ?_, fun p hp => ?_⟩
      · rw [← es, ← e7] at this
        have eb := gt_bb ((v.toUInt32 >>> ((nI 24 - nI (8 * q)).toUInt32 &&& Int32.toUInt32 31)).toInt32).toInt8
        show sx_V 111 (d + 1) 0 0 K 3 [(0, .ref 15), (1, .int v), (2, .int (nI 24 - nI (8 * q) + -8))] [] (sx_up (sx_up J 50 (upd (J 50) (t + q) ((((v.toUInt32 >>> ((nI 24 - nI (8 * q)).toUInt32 &&& Int32.toUInt32 31)).toInt32).toInt8.toInt32).toInt8.toInt32))) 15 (upd (J 15) 7 (J 15 7 + nI 1))) (sx_run rw m ln)
        rw [eb]
        exact this
      · rw [sx_up_same, h2, nI_add]
        funext i
        unfold upd
        by_cases e : i = 7
        · rw [if_pos e, if_pos e]; rfl
        · rw [if_neg e, if_neg e, if_neg e]
      · rw [sx_up_ne (by omega), sx_up_same, pk_un (by omega)]; exact h3 i (by omega)
      · rw [sx_up_ne (by omega), sx_up_same]
        by_cases e : p = q
        · subst e; exact pk_us
        · rw [pk_un (by omega)]; exact h4 p (by omega)
theorem c_tape {v : Int32} {t : Nat} (h7 : I 15 7 = nI t) (ht : t + 4 ≤ 96) (hk : ∀ J, (∀ a, a ≠ 15 → a ≠ 50 → J a = I a) → J 15 = upd (I 15) 7 (nI (t + 4)) → (∀ i, (i < t ∨ t + 4 ≤ i) → J 50 i = I 50 i) → (∀ q, q < 4 → J 50 (t + q) = gt_cb v q) → K none J (sx_run rw m ln)) : sx_C 111 (d + 1) [.ref 15, .int v] I (sx_run rw m ln) K := by
  refine sx_enter (by decide +kernel) (Nat.le_of_ble_eq_true rfl) (sx_go m111 60 rfl (fun VV CC hV hC => hV _ _ _ _ _ _ _ ?_))
  have e : upd (I 15) 7 (nI (t + 0)) = I 15 := by
    rw [show nI (t + 0) = I 15 7 from h7.symm]; exact gs_upself _ _
  exact v_tape (d := d) ht hk 4 0 I (by omega) ⟨fun _ _ _ => rfl, e.symm, fun _ _ => rfl, fun p hp => absurd hp (Nat.not_lt_zero p)⟩
theorem c1_feed {a b c : Int32} {t : Nat} (h7 : I 15 7 = nI t) (ht : t ≤ 96) (hk0 : 96 < t + 12 → K (some (.int (-1000000003))) I (sx_run rw m ln))
    (hk : t + 12 ≤ 96 → ∀ J, (∀ x, x ≠ 15 → x ≠ 50 → J x = I x) → J 15 = upd (I 15) 7 (nI (t + 12)) → (∀ i, (i < t ∨ t + 12 ≤ i) → J 50 i = I 50 i) → (∀ q, q < 12 → J 50 (t + q) = gt_cb (if q < 4 then a else if q < 8 then b else c) (q % 4)) → K (some (.int (nI (t + 12)))) J (sx_run rw m ln)) : sx_C 82 (d + 2) [.ref 15, .int a, .int b, .int c] I (sx_run rw m ln) K := by
  have e : I 15 7 + nI 12 = nI (t + 12) := by rw [h7, nI_add]
  refine sx_enter (by decide +kernel) (Nat.le_of_ble_eq_true rfl) (sx_go m82 60 rfl (fun VV CC hV hC => ?_))
  refine ⟨fun (c1 : I 15 7 + nI 12 ≤ nI 96) => ?_, fun (c1 : ¬ I 15 7 + nI 12 ≤ nI 96) => ?_⟩
  · rw [e, nI_leI (by omega) (by omega)] at c1
    refine hC _ _ _ _ _ (c_tape h7 (by omega) (fun J1 f1 g1 h1 k1 => hC _ _ _ _ _ (c_tape (t := t + 4) (by rw [g1, pk_us]) (by omega) (fun J2 f2 g2 h2 k2 => hC _ _ _ _ _ (c_tape (t := t + 4 + 4) (by rw [g2, pk_us]) (by omega) (fun J3 f3 g3 h3 k3 => ?_))))))
    have e15 : J3 15 = upd (I 15) 7 (nI (t + 12)) := by
      rw [g3, g2, g1]
      funext i
      unfold upd
      by_cases q : i = 7
      · rw [if_pos q, if_pos q]
      · rw [if_neg q, if_neg q, if_neg q, if_neg q]
    refine sx_kk (by rw [e15, pk_us]) (hk c1 J3 (fun x x1 x2 => by rw [f3 x x1 x2, f2 x x1 x2, f1 x x1 x2]) e15 (fun i hi => by rw [h3 i (by omega), h2 i (by omega), h1 i (by omega)]) (fun q hq => ?_))
    rcases Nat.lt_or_ge q 4 with h | h
    · rw [h3 _ (by omega), h2 _ (by omega), k1 q h, if_pos h, Nat.mod_eq_of_lt h]
    · rcases Nat.lt_or_ge q 8 with h' | h'
      · rw [h3 _ (by omega), show t + q = t + 4 + (q - 4) by omega, k2 (q - 4) (by omega), if_neg (by omega), if_pos h']
        congr 1; omega
      · rw [show t + q = t + 4 + 4 + (q - 8) by omega, k3 (q - 8) (by omega), if_neg (by omega), if_neg (by omega)]
        congr 1; omega
  · rw [e, nI_leI (by omega) (by omega)] at c1
    exact hk0 (by omega)
end
