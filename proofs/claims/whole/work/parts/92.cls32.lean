/-! ===== what a row keeps: the calls ===== -/
section
variable {s : Nat → Int32}
theorem gs_t2.rf (s : Nat → Int32) : gs_t2 s s := ⟨rfl, fun _ _ => rfl⟩
theorem gs_t2.set {k w : Nat} (hk : k < 10) (hw : w < 5) (v : Int32) : gs_t2 s (gs_set s k w v) := (gs_lo.set s k w v hk hw).t2
theorem gs_lw.guardC (h : gs_lw s) {a b c : Int32} : gs_lw (gs_guardC s a b c).1 ∧ gs_t2 s (gs_guardC s a b c).1 := by
  have same : gs_lw s ∧ gs_t2 s s := ⟨h, gs_t2.rf s⟩
  obtain ⟨⟨n, hn, hn10⟩, -⟩ := id h.1
  unfold gs_guardC
  by_cases c1 : gs_in a 0 (nI 5) = 0 ∨ gs_in b 0 (nI 19) = 0 ∨ gs_in c 0 (nI 99) = 0
  · rw [if_pos c1]; exact same
  · rw [if_neg c1]
    by_cases c2 : ¬ gs_whoV s (gs_N s) b < 0
    · rw [if_pos c2]; exact same
    · rw [if_neg c2]
      by_cases c3 : s 0 = nI 10
      · rw [if_pos c3]; exact same
      · rw [if_neg c3, gs_N_eq hn hn10]
        have hn2 : n < 10 := by
          refine Nat.lt_of_le_of_ne hn10 (fun z => c3 ?_)
          rw [hn, z]
        obtain ⟨x, rfl, -, hx⟩ := gs_in_nat (a := 0) (by omega) (fun z => c1 (Or.inl z)) (by decide)
        obtain ⟨y, rfl, -, hy⟩ := gs_in_nat (a := 0) (by omega) (fun z => c1 (Or.inr (Or.inl z))) (by decide)
        obtain ⟨z, rfl, -, hz⟩ := gs_in_nat (a := 0) (by omega) (fun z => c1 (Or.inr (Or.inr z))) (by decide)
        have e : ∀ i, i ≠ 0 → (i < 12 ∨ 62 ≤ i) → gs_comes s n (nI x) (nI y) (nI z) i = s i := by
          intro i h3 h5
          unfold gs_comes gs_set
          rw [pk_un (by omega), pk_un (by omega), pk_un (by omega), pk_un (by omega), pk_un (by omega), pk_un h3]
        exact ⟨h.k (h.1.comes hn2 (by omega) (by omega) (by omega)) (e 2 (by omega) (by omega)) (e 8 (by omega) (by omega)) (e 9 (by omega) (by omega)), e 1 (by omega) (by omega), fun i hi => e i (by omega) (by omega)⟩
theorem gs_lw.at0 (h : gs_lw s) {g : Int32} (c : ¬ gs_in g 0 (s 0 - nI 1) = 0) : ∃ j, g = nI j ∧ j < 10 := by
  obtain ⟨⟨n, hn, hn10⟩, -⟩ := id h.1
  obtain ⟨j, e, hj⟩ := gs_place hn (by omega) c
  exact ⟨j, e, by omega⟩
theorem gs_lw.turns (h : gs_lw s) {g k : Int32} : gs_lw (gs_turns s g k).1 ∧ gs_t2 s (gs_turns s g k).1 := by
  unfold gs_turns
  by_cases c1 : gs_in g 0 (s 0 - nI 1) = 0 ∨ gs_in k 0 (nI 5) = 0
  · rw [if_pos c1]; exact ⟨h, gs_t2.rf s⟩
  · rw [if_neg c1]
    obtain ⟨j, rfl, hj⟩ := h.at0 (fun z => c1 (Or.inl z))
    obtain ⟨x, rfl, -, hx⟩ := gs_in_nat (a := 0) (by omega) (fun z => c1 (Or.inr z)) (by decide)
    rw [nI_clamp (by omega)]
    exact ⟨h.set (h.1.set (by omega) (fun _ => ⟨x, rfl, by omega⟩) (by omega) (by omega) (by omega) (by omega)), gs_t2.set hj (by omega) _⟩
theorem gs_lw.setC (h : gs_lw s) {g w v : Int32} : gs_lw (gs_setC s g w v).1 ∧ gs_t2 s (gs_setC s g w v).1 := by
  unfold gs_setC
  by_cases c1 : gs_in g 0 (s 0 - nI 1) = 0 ∨ gs_in w (nI 2) (nI 4) = 0 ∨ gs_in v 0 (if w = nI 4 then nI 1 else nI 99) = 0
  · rw [if_pos c1]; exact ⟨h, gs_t2.rf s⟩
  · rw [if_neg c1]
    obtain ⟨j, rfl, hj⟩ := h.at0 (fun z => c1 (Or.inl z))
    obtain ⟨x, rfl, hx2, hx⟩ := gs_in_nat (by omega) (fun z => c1 (Or.inr (Or.inl z))) (by decide)
    have c3 : ¬ gs_in v 0 (if nI x = nI 4 then nI 1 else nI 99) = 0 := fun z => c1 (Or.inr (Or.inr z))
    have x4 : nI x = nI 4 ↔ x = 4 := nI_eq (by omega) (by omega)
    rw [nI_clamp (by omega), nI_clamp (by omega)]
    refine ⟨h.set (h.1.set (by omega) (by omega) (by omega) (fun z => ?_) (fun z => ?_) (fun z => ?_)), gs_t2.set hj (by omega) _⟩
    · rw [if_neg (fun y => by have := x4.mp y; omega)] at c3
      obtain ⟨y, e, -, hy⟩ := gs_in_nat (a := 0) (by omega) c3 (by decide)
      exact ⟨y, e, hy⟩
    · rw [if_neg (fun y => by have := x4.mp y; omega)] at c3
      obtain ⟨y, e, -, hy⟩ := gs_in_nat (a := 0) (by omega) c3 (by decide)
      exact ⟨y, e, hy⟩
    · rw [if_pos (x4.mpr z)] at c3
      obtain ⟨y, e, -, hy⟩ := gs_in_nat (a := 0) (by omega) c3 (by decide)
      have : y = 0 ∨ y = 1 := by omega
      rcases this with rfl | rfl
      · exact Or.inl e
      · exact Or.inr e
theorem gs_lw.moves (h : gs_lw s) {g p : Int32} : gs_lw (gs_moves s g p).1 ∧ gs_t2 s (gs_moves s g p).1 := by
  unfold gs_moves
  by_cases c1 : gs_in g 0 (s 0 - nI 1) = 0 ∨ gs_in p 0 (nI 19) = 0
  · rw [if_pos c1]; exact ⟨h, gs_t2.rf s⟩
  · rw [if_neg c1]
    by_cases c2 : ¬ gs_whoV s (gs_N s) p < 0
    · rw [if_pos c2]; exact ⟨h, gs_t2.rf s⟩
    · rw [if_neg c2]
      obtain ⟨j, rfl, hj⟩ := h.at0 (fun z => c1 (Or.inl z))
      obtain ⟨x, rfl, -, hx⟩ := gs_in_nat (a := 0) (by omega) (fun z => c1 (Or.inr z)) (by decide)
      rw [nI_clamp (by omega)]
      exact ⟨h.set (h.1.set (by omega) (by omega) (fun _ => ⟨x, rfl, by omega⟩) (by omega) (by omega) (by omega)), gs_t2.set hj (by omega) _⟩
theorem gs_lw.up (h : gs_lw s) {i : Nat} (h1 : (2 < i ∧ i < 8) ∨ (9 < i ∧ i < 12)) (v : Int32) : gs_lw (upd s i v) ∧ gs_t2 s (upd s i v) :=
  ⟨h.k (h.1.up (by omega) (by omega) v) (pk_un (by omega)) (pk_un (by omega)) (pk_un (by omega)), (gs_lo.up s i v (by omega) (by omega)).t2⟩
theorem gs_lw.rule (h : gs_lw s) {w v : Int32} : gs_lw (gs_rule s w v).1 ∧ gs_t2 s (gs_rule s w v).1 := by
  unfold gs_rule
  by_cases c1 : gs_in w 0 (nI 3) = 0 ∨ gs_in v 0 (if w = 0 then nI 19 else if w = nI 1 then nI 100 else nI 999) = 0
  · rw [if_pos c1]; exact ⟨h, gs_t2.rf s⟩
  · rw [if_neg c1]
    obtain ⟨x, rfl, -, hx⟩ := gs_in_nat (a := 0) (by omega) (fun z => c1 (Or.inl z)) (by decide)
    rw [nI_clamp (by omega)]
    exact h.up (by omega) v
theorem gs_dealt_lo (n : Nat) (s : Nat → Int32) : ∀ k, n + k ≤ 10 → ∀ i, i ≠ 0 → i ≠ 11 → (i < 12 ∨ 62 ≤ i) → gs_dealt n s k i = s i
  | 0, _, _, _, _, _ => rfl
  | k + 1, hk, i, h3, h4, h5 => by
    show gs_deal1 (n + k) (gs_dealt n s k) i = _
    unfold gs_deal1 gs_comes gs_set gs_drawS
    rw [pk_un (by omega), pk_un (by omega), pk_un (by omega), pk_un (by omega), pk_un (by omega), pk_un h3, pk_un h4, pk_un h4, pk_un h4]
    exact gs_dealt_lo n s k (by omega) i h3 h4 h5
theorem gs_lw.deal (h : gs_lw s) {v : Int32} : gs_lw (gs_deal s v).1 ∧ gs_t2 s (gs_deal s v).1 := by
  obtain ⟨⟨n, hn, hn10⟩, -⟩ := id h.1
  unfold gs_deal
  by_cases c1 : gs_in v (nI 1) (nI 10) = 0
  · rw [if_pos c1]; exact ⟨h, gs_t2.rf s⟩
  · rw [if_neg c1, gs_N_eq hn hn10]
    have hm : n + min v.toNatClampNeg (10 - n) ≤ 10 := by omega
    have lo := gs_dealt_lo n s _ hm
    exact ⟨h.k (h.1.dealt _ hm) (lo 2 (by omega) (by omega) (by omega)) (lo 8 (by omega) (by omega) (by omega)) (lo 9 (by omega) (by omega) (by omega)), lo 1 (by omega) (by omega) (by omega), fun i hi => lo i (by omega) (by omega) (by omega)⟩
theorem gs_lw.nights (h : gs_lw s) {v : Int32} : gs_lw (gs_nightsS s v) ∧ gs_t2 s (gs_nightsS s v) := by
  obtain ⟨⟨n, hn, hn10⟩, -⟩ := id h.1
  unfold gs_nightsS
  by_cases c1 : gs_in v (nI 1) (nI 100) = 0
  · rw [if_pos c1]; exact ⟨h, gs_t2.rf s⟩
  · rw [if_neg c1]
    obtain ⟨c, rfl, -, hc⟩ := gs_in_nat (by omega) c1 (by decide)
    obtain ⟨t, r, h1, h2, -, -⟩ := h.2
    have ec : gs_cut s (nI c) = min c (9999 - t) := by
      unfold gs_cut
      rw [h1, pk_sub (by omega)]
      by_cases z : c < 9999 - t
      · rw [if_pos (nI_lt z (by omega)), nI_clamp (by omega)]; omega
      · rw [if_neg (nI_nlt (by omega) (by omega)), nI_clamp (by omega)]; omega
    rw [ec]
    exact ⟨h.many h1 (by omega), (gs_lo.many hn hn10 _).t2⟩
theorem gs_lw.it {body : Nat → (Nat → Int32) → Nat → Int32} (h : gs_lw s) (hb : ∀ k s, k < 10 → gs_lw s → gs_lw (body k s) ∧ gs_t2 s (body k s)) : ∀ n, n ≤ 10 → gs_lw (gs_it body n s) ∧ gs_t2 s (gs_it body n s)
  | 0, _ => ⟨h, gs_t2.rf s⟩
  | n + 1, hn => by
    have ih := gs_lw.it h hb n (by omega)
    have := hb n _ (by omega) ih.1
    exact ⟨this.1, this.2.1.trans ih.2.1, fun i hi => (this.2.2 i hi).trans (ih.2.2 i hi)⟩
theorem gs_lw.pour (h : gs_lw s) {S Z R : Nat → Int32} {a : Int32} : gs_lw (gs_pour s S Z R a).1 ∧ gs_t2 s (gs_pour s S Z R a).1 := by
  obtain ⟨⟨n, hn, hn10⟩, -⟩ := id h.1
  unfold gs_pour
  by_cases c1 : gs_in a 0 (nI 3) = 0
  · rw [if_pos c1]; exact ⟨h, gs_t2.rf s⟩
  · rw [if_neg c1]
    by_cases c2 : S a.toNatClampNeg < 0
    · rw [if_pos c2]; exact ⟨h, gs_t2.rf s⟩
    · rw [if_neg c2, gs_N_eq hn hn10]
      refine h.it (fun k s' hk hs => ?_) _ (by omega)
      have hv : ∃ x, gs_pourV s' R a.toNatClampNeg k = nI x ∧ x ≤ 99 := by
        unfold gs_pourV
        by_cases c3 : R (24 * a.toNatClampNeg + k) = -1000000005
        · rw [if_pos c3]; exact (hs.1.2 k hk).2.2.1
        · rw [if_neg c3]; exact gs_wi_ok _
      exact ⟨hs.set (hs.1.set (by omega) (by omega) (by omega) (fun _ => hv) (by omega) (by omega)), gs_t2.set hk (by omega) _⟩
end
