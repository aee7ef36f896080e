/-! ===== the class: guards and rules, one call each ===== -/
theorem gs_in_c {c b : Nat} (h : c ≤ b) (hb : b < 2 ^ 31) : ¬ gs_in (nI c) 0 (nI b) = 0 := gs_in_iff.mpr ⟨nI_pos' (by omega), nI_le h hb⟩
section
variable {d m : Nat} {I : sx_I} {rw : Nat → Nat → Option Nat} {ln : Nat → Nat} {K : sx_K} {s : Nat → Int32}
theorem c_isGuard1 {v x : Int32} (hx : I 19 1 = x) (hk : K (some (.int (gs_in v 0 (x - nI 1)))) I (sx_run rw m ln)) : sx_C 101 (d + 2) [.ref 15, .int v] I (sx_run rw m ln) K := by
  subst hx
  refine sx_enter (by decide +kernel) (Nat.le_of_ble_eq_true rfl) (sx_go m101 40 rfl (fun VV CC hV hC => ?_))
  exact hC _ _ _ _ _ (c_isWithin ⟨gs_in01 _ _ _, hk⟩)
theorem c1_guard {a b c : Int32} (hb : gb 19 s I) (hi : gs_inv s) (hT : gs_tn s) (hk : ∀ I', gb_fr 19 I I' → gb 19 (gs_guardC s a b c).1 I' → K (some (.int (gs_guardC s a b c).2)) I' (sx_run rw m ln)) : sx_C 59 (d + 4) [.ref 15, .int a, .int b, .int c] I (sx_run rw m ln) K := by
  obtain ⟨⟨n, hn, hn10⟩, -⟩ := id hi
  generalize e : gs_guardC s a b c = g at hk
  unfold gs_guardC at e
  have no : ∀ x, (s, x) = g → K (some (.int x)) I (sx_run rw m ln) := by
    intro x h; subst h; exact hk I (gb_fr.rf _ _) hb
  have bad : (gs_in a 0 (nI 5) = 0 ∨ gs_in b 0 (nI 19) = 0 ∨ gs_in c 0 (nI 99) = 0) → K (some (.int (-1000000001))) I (sx_run rw m ln) := fun h => no _ (by rw [if_pos h] at e; exact e)
  refine sx_enter (by decide +kernel) (Nat.le_of_ble_eq_true rfl) (sx_go m59 60 rfl (fun VV CC hV hC => ?_))
  refine hC _ _ _ _ _ (c_isKind ⟨fun (c1 : gs_in a 0 (nI 5) = 0) => bad (Or.inl c1), fun (c1 : ¬ gs_in a 0 (nI 5) = 0) => hC _ _ _ _ _ (c_isPost1 ⟨fun (c2 : gs_in b 0 (nI 19) = 0) => bad (Or.inr (Or.inl c2)), fun (c2 : ¬ gs_in b 0 (nI 19) = 0) => hC _ _ _ _ _ (c_isWithin ⟨fun (c3 : ¬ gs_in c 0 (nI 99) = 0) => ?_, fun (c3 : gs_in c 0 (nI 99) = 0) => bad (Or.inr (Or.inr c3))⟩)⟩)⟩)
  rw [if_neg (by rintro (h | h | h); exact c1 h; exact c2 h; exact c3 h), gs_N_eq hn hn10] at e
  refine hC _ _ _ _ _ (c_owner_19 hb hn hn10 ⟨fun (c4 : gs_on (gs_whoV s n b) = -1000000005) => ?_, fun (c4 : ¬ gs_on (gs_whoV s n b) = -1000000005) => no _ ?_⟩)
  · rw [gs_on_none hn10] at c4
    rw [if_neg (fun h => h ((gs_whoV_lt hn10).mpr c4))] at e
    refine ⟨fun (c5 : I 19 1 < nI 10) => ?_, fun (c5 : ¬ I 19 1 < nI 10) => no _ ?_⟩
    · rw [hb.1.1, hn, nI_ltI (by omega) (by omega)] at c5
      rw [if_neg (by rw [hn, nI_eq (by omega) (by omega)]; omega)] at e
      subst e
      exact hC _ _ _ _ _ (c_enlist_19 hb hn c5 hT (fun I' h1 h2 => sx_kk hn.symm (hk I' h1 h2)))
    · rw [hb.1.1, hn, nI_ltI (by omega) (by omega)] at c5
      rw [if_pos (by rw [hn, nI_eq (by omega) (by omega)]; omega)] at e
      exact e
  · rw [gs_on_none hn10] at c4
    rw [if_pos (fun h => c4 ((gs_whoV_lt hn10).mp h))] at e
    exact e
theorem c1_told {g w : Int32} {t0 : Nat} (hb : gb 19 s I) (hi : gs_inv s) (htx : gb_tx I (rw 19) m ln s) (hnt : s 2 = nI t0) (ht0 : t0 < 2 ^ 31) (hk : ∀ I', gb_k I I' → K (some (.int (gs_told s g w))) I' (sx_run rw m ln)) : sx_C 60 (d + 4) [.ref 15, .int g, .int w] I (sx_run rw m ln) K := by
  obtain ⟨⟨n, hn, hn10⟩, -⟩ := id hi
  generalize e : gs_told s g w = r at hk
  unfold gs_told at e
  have bad : (gs_in g 0 (s 0 - nI 1) = 0 ∨ gs_in w 0 (nI 8) = 0) → K (some (.int (-1000000001))) I (sx_run rw m ln) := by
    intro h
    rw [if_pos h] at e
    exact sx_kk e (hk I (gb_k.rf I))
  refine sx_enter (by decide +kernel) (Nat.le_of_ble_eq_true rfl) (sx_go m60 100 rfl (fun VV CC hV hC => ?_))
  refine hC _ _ _ _ _ (c_isGuard1 hb.1.1 ⟨fun (c1 : ¬ gs_in g 0 (s 0 - nI 1) = 0) => ?_, fun (c1 : gs_in g 0 (s 0 - nI 1) = 0) => bad (Or.inl c1)⟩)
  obtain ⟨j, rfl, hj⟩ := gs_guard hn hn10 c1
  rw [show (nI j).toNatClampNeg = j from nI_clamp (by omega)] at e
  refine ⟨j, ⟨rfl, by omega⟩, j, ⟨rfl, by omega⟩, ?_⟩
  rw [gb_kind_19 hb (by omega), gb_wear_19 hb (by omega)]
  have val : ∀ c, w = nI c → c ≤ 8 → (if w = nI 5 then gs_looks s j else if w = nI 6 then gs_falls (s (12 + 5 * j + 0)) (s (12 + 5 * j + 2)) else if w = nI 7 then gs_fights (s (12 + 5 * j + 0)) else if w = nI 8 then gs_worth (s (12 + 5 * j + 0)) (s (12 + 5 * j + 2)) else s (12 + 5 * j + w.toNatClampNeg)) = r := by
    intro c hw hc
    rw [if_neg (fun h => h.elim c1 (by rw [hw]; exact gs_in_c hc (by omega)))] at e
    exact e
  have cell : ∀ c, w = nI c → c < 5 → s (12 + 5 * j + c) = r := by
    intro c hw hc
    have := val c hw (by omega)
    have ne : ∀ b, b < 10 → c ≠ b → ¬ w = nI b := fun b hb2 h => by rw [hw, nI_eq (by omega) (by omega)]; exact h
    rw [if_neg (ne 5 (by omega) (by omega)), if_neg (ne 6 (by omega) (by omega)), if_neg (ne 7 (by omega) (by omega)), if_neg (ne 8 (by omega) (by omega)), hw, nI_clamp (by omega)] at this
    exact this
  have rd : ∀ x, x = r → K (some (.int x)) I (sx_run rw m ln) := fun x h => by rw [h]; exact hk I (gb_k.rf I)
  refine ⟨fun (c2 : w = nI 0) => rd _ (cell 0 c2 (by omega)), fun (q0 : ¬ w = nI 0) => ⟨fun (c2 : w = nI 1) => ⟨j, ⟨rfl, by omega⟩, rd _ (by rw [gb_post_19 hb (by omega)]; exact cell 1 c2 (by omega))⟩, fun (q1 : ¬ w = nI 1) => ⟨fun (c2 : w = nI 2) => rd _ (cell 2 c2 (by omega)), fun (q2 : ¬ w = nI 2) => ⟨fun (c2 : w = nI 3) => ⟨j, ⟨rfl, by omega⟩, rd _ (by rw [gb_doubt_19 hb (by omega)]; exact cell 3 c2 (by omega))⟩, fun (q3 : ¬ w = nI 3) => ⟨fun (c2 : w = nI 4) => ⟨j, ⟨rfl, by omega⟩, rd _ (by rw [gb_up_19 hb (by omega)]; exact cell 4 c2 (by omega))⟩, fun (q4 : ¬ w = nI 4) => ⟨fun (c2 : w = nI 5) => ?_, fun (q5 : ¬ w = nI 5) => ⟨fun (c2 : w = nI 6) => ?_, fun (q6 : ¬ w = nI 6) => ⟨fun (c2 : w = nI 7) => ?_, fun (q7 : ¬ w = nI 7) => ⟨fun (c2 : w = nI 8) => ?_, fun (q8 : ¬ w = nI 8) => bad (Or.inr ?_)⟩⟩⟩⟩⟩⟩⟩⟩⟩
  · have := val 5 c2 (by omega)
    rw [if_pos c2] at this
    exact hC _ _ _ _ _ (c_looksOf_19 rfl (by omega) hb htx hnt ht0 (fun I' h => sx_kk this (hk I' h)))
  · have := val 6 c2 (by omega)
    rw [if_neg q5, if_pos c2] at this
    exact hC _ _ _ _ _ (c_falls1 (rd _ this))
  · have := val 7 c2 (by omega)
    rw [if_neg q5, if_neg q6, if_pos c2] at this
    exact hC _ _ _ _ _ (c_fights1 (rd _ this))
  · have := val 8 c2 (by omega)
    rw [if_neg q5, if_neg q6, if_neg q7, if_pos c2] at this
    exact hC _ _ _ _ _ (c_worth1 (rd _ this))
  · refine Decidable.byContradiction (fun h => ?_)
    obtain ⟨c, hw, -, hc⟩ := gs_in_nat (a := 0) (by omega) h (by decide)
    have : c = 0 ∨ c = 1 ∨ c = 2 ∨ c = 3 ∨ c = 4 ∨ c = 5 ∨ c = 6 ∨ c = 7 ∨ c = 8 := by omega
    rcases this with rfl | rfl | rfl | rfl | rfl | rfl | rfl | rfl | rfl
    · exact q0 hw
    · exact q1 hw
    · exact q2 hw
    · exact q3 hw
    · exact q4 hw
    · exact q5 hw
    · exact q6 hw
    · exact q7 hw
    · exact q8 hw
theorem c1_as {g k : Int32} (hb : gb 19 s I) (hi : gs_inv s) (hk : K (some (.int (gs_as s g k))) I (sx_run rw m ln)) : sx_C 61 (d + 3) [.ref 15, .int g, .int k] I (sx_run rw m ln) K := by
  obtain ⟨⟨n, hn, hn10⟩, -⟩ := id hi
  unfold gs_as at hk
  have bad : (gs_in g 0 (s 0 - nI 1) = 0 ∨ gs_in k 0 (nI 5) = 0) → K (some (.int (-1000000001))) I (sx_run rw m ln) := fun h => by rw [if_pos h] at hk; exact hk
  refine sx_enter (by decide +kernel) (Nat.le_of_ble_eq_true rfl) (sx_go m61 60 rfl (fun VV CC hV hC => ?_))
  refine hC _ _ _ _ _ (c_isGuard1 hb.1.1 ⟨fun (c1 : gs_in g 0 (s 0 - nI 1) = 0) => bad (Or.inl c1), fun (c1 : ¬ gs_in g 0 (s 0 - nI 1) = 0) => hC _ _ _ _ _ (c_isKind ⟨fun (c2 : ¬ gs_in k 0 (nI 5) = 0) => ?_, fun (c2 : gs_in k 0 (nI 5) = 0) => bad (Or.inr c2)⟩)⟩)
  obtain ⟨j, rfl, hj⟩ := gs_guard hn hn10 c1
  obtain ⟨o, ho, -, ho6⟩ := gs_in_nat (a := 0) (by omega) c2 (by decide)
  obtain ⟨q, hq, hq6⟩ := (hi.2 j (by omega)).1
  rw [if_neg (fun h => h.elim c1 c2), nI_clamp (by omega)] at hk
  refine ⟨j, ⟨rfl, by omega⟩, ?_⟩
  rw [gb_kind_19 hb (by omega)]
  refine hC _ _ _ _ _ (c_isUnder hq ho hq6 (by omega) ⟨fun (c3 : gs_isOf (s (12 + 5 * j + 0)) k = 0) => ?_, fun (c3 : ¬ gs_isOf (s (12 + 5 * j + 0)) k = 0) => ⟨j, ⟨rfl, by omega⟩, sx_kk (gb_wear_19 hb (by omega)) ?_⟩⟩)
  · rw [if_pos c3] at hk; exact hk
  · rw [if_neg c3] at hk; exact hk
theorem c1_turns {g k : Int32} (hb : gb 19 s I) (hi : gs_inv s) (hT : gs_tn s) (hk : ∀ I', gb_fr 19 I I' → gb 19 (gs_turns s g k).1 I' → K (some (.int (gs_turns s g k).2)) I' (sx_run rw m ln)) : sx_C 62 (d + 3) [.ref 15, .int g, .int k] I (sx_run rw m ln) K := by
  obtain ⟨⟨n, hn, hn10⟩, -⟩ := id hi
  generalize e : gs_turns s g k = r at hk
  unfold gs_turns at e
  have bad : (gs_in g 0 (s 0 - nI 1) = 0 ∨ gs_in k 0 (nI 5) = 0) → K (some (.int (-1000000001))) I (sx_run rw m ln) := by
    intro h
    rw [if_pos h] at e; subst e
    exact hk I (gb_fr.rf _ _) hb
  refine sx_enter (by decide +kernel) (Nat.le_of_ble_eq_true rfl) (sx_go m62 60 rfl (fun VV CC hV hC => ?_))
  refine hC _ _ _ _ _ (c_isGuard1 hb.1.1 ⟨fun (c1 : gs_in g 0 (s 0 - nI 1) = 0) => bad (Or.inl c1), fun (c1 : ¬ gs_in g 0 (s 0 - nI 1) = 0) => hC _ _ _ _ _ (c_isKind ⟨fun (c2 : ¬ gs_in k 0 (nI 5) = 0) => ?_, fun (c2 : gs_in k 0 (nI 5) = 0) => bad (Or.inr c2)⟩)⟩)
  obtain ⟨j, rfl, hj⟩ := gs_guard hn hn10 c1
  rw [if_neg (fun h => h.elim c1 c2), nI_clamp (by omega)] at e
  subst e
  exact ⟨j, ⟨rfl, by omega⟩, j, ⟨rfl, by omega⟩, sx_kk (gb_kind_19 hb (by omega)) (hk _ (gb_fr.up I 20 _ (by omega) (by omega)) (hb.set (w := 0) (by omega) (by omega) k hT))⟩
theorem c1_set {g w v : Int32} (hb : gb 19 s I) (hi : gs_inv s) (hT : gs_tn s) (hk : ∀ I', gb_fr 19 I I' → gb 19 (gs_setC s g w v).1 I' → K (some (.int (gs_setC s g w v).2)) I' (sx_run rw m ln)) : sx_C 63 (d + 3) [.ref 15, .int g, .int w, .int v] I (sx_run rw m ln) K := by
  obtain ⟨⟨n, hn, hn10⟩, -⟩ := id hi
  generalize e : gs_setC s g w v = r at hk
  unfold gs_setC at e
  have bad : (gs_in g 0 (s 0 - nI 1) = 0 ∨ gs_in w (nI 2) (nI 4) = 0 ∨ gs_in v 0 (if w = nI 4 then nI 1 else nI 99) = 0) → K (some (.int (-1000000001))) I (sx_run rw m ln) := by
    intro h
    rw [if_pos h] at e; subst e
    exact hk I (gb_fr.rf _ _) hb
  refine sx_enter (by decide +kernel) (Nat.le_of_ble_eq_true rfl) (sx_go m63 60 rfl (fun VV CC hV hC => ?_))
  refine hC _ _ _ _ _ (c_isGuard1 hb.1.1 ⟨fun (c1 : gs_in g 0 (s 0 - nI 1) = 0) => bad (Or.inl c1), fun (c1 : ¬ gs_in g 0 (s 0 - nI 1) = 0) => hC _ _ _ _ _ (c_isWithin ⟨fun (c2 : gs_in w (nI 2) (nI 4) = 0) => bad (Or.inr (Or.inl c2)), fun (c2 : ¬ gs_in w (nI 2) (nI 4) = 0) => ?_⟩)⟩)
  obtain ⟨j, rfl, hj⟩ := gs_guard hn hn10 c1
  obtain ⟨c, rfl, hc2, hc4⟩ := gs_in_nat (by omega) c2 (by decide)
  rw [nI_clamp (by omega), nI_clamp (by omega)] at e
  refine ⟨fun (c3 : ¬ nI c = nI 4) => hC _ _ _ _ _ (c_isWithin ⟨fun (c4 : ¬ gs_in v (nI 0) (nI 99) = 0) => ?_, fun (c4 : gs_in v (nI 0) (nI 99) = 0) => bad (Or.inr (Or.inr (by rw [if_neg c3]; exact c4)))⟩), fun (c3 : nI c = nI 4) => hC _ _ _ _ _ (c_isWithin ⟨fun (c4 : ¬ gs_in v (nI 0) (nI 1) = 0) => ?_, fun (c4 : gs_in v (nI 0) (nI 1) = 0) => bad (Or.inr (Or.inr (by rw [if_pos c3]; exact c4)))⟩)⟩
  · rw [if_neg (by rw [if_neg c3]; rintro (h | h | h); exact c1 h; exact c2 h; exact c4 h)] at e
    subst e
    refine ⟨fun (c5 : ¬ nI c = nI 2) => ⟨fun (c6 : ¬ nI c = nI 3) => ?_, fun (c6 : nI c = nI 3) => ?_⟩, fun (c5 : nI c = nI 2) => ?_⟩
    · exfalso
      rw [nI_eq (by omega) (by omega)] at c3 c5 c6
      omega
    · rw [nI_eq (by omega) (by omega)] at c6
      subst c6
      exact ⟨j, ⟨rfl, by omega⟩, j, ⟨rfl, by omega⟩, sx_kk (gb_doubt_19 hb (by omega)) (hk _ (gb_fr.up I 23 _ (by omega) (by omega)) (hb.set (w := 3) (by omega) (by omega) v hT))⟩
    · rw [nI_eq (by omega) (by omega)] at c5
      subst c5
      exact ⟨j, ⟨rfl, by omega⟩, j, ⟨rfl, by omega⟩, sx_kk (gb_wear_19 hb (by omega)) (hk _ (gb_fr.up I 22 _ (by omega) (by omega)) (hb.set (w := 2) (by omega) (by omega) v hT))⟩
  · rw [if_neg (by rw [if_pos c3]; rintro (h | h | h); exact c1 h; exact c2 h; exact c4 h)] at e
    subst e
    refine ⟨fun (c5 : ¬ nI c = nI 2) => ⟨fun (c6 : ¬ nI c = nI 3) => ?_, fun (c6 : nI c = nI 3) => ?_⟩, fun (c5 : nI c = nI 2) => ?_⟩
    · rw [nI_eq (by omega) (by omega)] at c3
      subst c3
      exact ⟨j, ⟨rfl, by omega⟩, j, ⟨rfl, by omega⟩, sx_kk (gb_up_19 hb (by omega)) (hk _ (gb_fr.up I 24 _ (by omega) (by omega)) (hb.set (w := 4) (by omega) (by omega) v hT))⟩
    · exfalso; rw [nI_eq (by omega) (by omega)] at c3 c6; omega
    · exfalso; rw [nI_eq (by omega) (by omega)] at c3 c5; omega
theorem c1_moves {g p : Int32} (hb : gb 19 s I) (hi : gs_inv s) (hT : gs_tn s) (hk : ∀ I', gb_fr 19 I I' → gb 19 (gs_moves s g p).1 I' → K (some (.int (gs_moves s g p).2)) I' (sx_run rw m ln)) : sx_C 64 (d + 3) [.ref 15, .int g, .int p] I (sx_run rw m ln) K := by
  obtain ⟨⟨n, hn, hn10⟩, -⟩ := id hi
  generalize e : gs_moves s g p = r at hk
  unfold gs_moves at e
  have bad : (gs_in g 0 (s 0 - nI 1) = 0 ∨ gs_in p 0 (nI 19) = 0) → K (some (.int (-1000000001))) I (sx_run rw m ln) := by
    intro h
    rw [if_pos h] at e; subst e
    exact hk I (gb_fr.rf _ _) hb
  refine sx_enter (by decide +kernel) (Nat.le_of_ble_eq_true rfl) (sx_go m64 60 rfl (fun VV CC hV hC => ?_))
  refine hC _ _ _ _ _ (c_isGuard1 hb.1.1 ⟨fun (c1 : gs_in g 0 (s 0 - nI 1) = 0) => bad (Or.inl c1), fun (c1 : ¬ gs_in g 0 (s 0 - nI 1) = 0) => hC _ _ _ _ _ (c_isPost1 ⟨fun (c2 : ¬ gs_in p 0 (nI 19) = 0) => ?_, fun (c2 : gs_in p 0 (nI 19) = 0) => bad (Or.inr c2)⟩)⟩)
  obtain ⟨j, rfl, hj⟩ := gs_guard hn hn10 c1
  rw [if_neg (fun h => h.elim c1 c2), gs_N_eq hn hn10, nI_clamp (by omega)] at e
  refine hC _ _ _ _ _ (c_owner_19 hb hn hn10 ⟨fun (c3 : gs_on (gs_whoV s n p) = -1000000005) => ?_, fun (c3 : ¬ gs_on (gs_whoV s n p) = -1000000005) => ?_⟩)
  · rw [gs_on_none hn10] at c3
    rw [if_neg (fun h => h ((gs_whoV_lt hn10).mpr c3))] at e
    subst e
    exact ⟨j, ⟨rfl, by omega⟩, j, ⟨rfl, by omega⟩, sx_kk (gb_post_19 hb (by omega)) (hk _ (gb_fr.up I 21 _ (by omega) (by omega)) (hb.set (w := 1) (by omega) (by omega) p hT))⟩
  · rw [gs_on_none hn10] at c3
    rw [if_pos (fun h => c3 ((gs_whoV_lt hn10).mp h))] at e
    subst e
    exact hk I (gb_fr.rf _ _) hb
theorem c1_at {p : Int32} (hb : gb 19 s I) (hi : gs_inv s) (hk : K (some (.int (gs_at s p))) I (sx_run rw m ln)) : sx_C 65 (d + 3) [.ref 15, .int p] I (sx_run rw m ln) K := by
  obtain ⟨⟨n, hn, hn10⟩, -⟩ := id hi
  unfold gs_at at hk
  rw [gs_N_eq hn hn10] at hk
  refine sx_enter (by decide +kernel) (Nat.le_of_ble_eq_true rfl) (sx_go m65 60 rfl (fun VV CC hV hC => ?_))
  refine hC _ _ _ _ _ (c_isPost1 ⟨fun (c1 : gs_in p 0 (nI 19) = 0) => ?_, fun (c1 : ¬ gs_in p 0 (nI 19) = 0) => hC _ _ _ _ _ (c_owner_19 hb hn hn10 ?_)⟩)
  · rw [if_pos c1] at hk; exact hk
  · rw [if_neg c1] at hk; exact hk
theorem c1_rule {w v : Int32} (hb : gb 19 s I) (hT : gs_tn s) (hk : ∀ I', gb_fr 19 I I' → gb 19 (gs_rule s w v).1 I' → K (some (.int (gs_rule s w v).2)) I' (sx_run rw m ln)) : sx_C 66 (d + 3) [.ref 15, .int w, .int v] I (sx_run rw m ln) K := by
  generalize e : gs_rule s w v = r at hk
  unfold gs_rule at e
  have bad : (gs_in w 0 (nI 3) = 0 ∨ gs_in v 0 (if w = 0 then nI 19 else if w = nI 1 then nI 100 else nI 999) = 0) → K (some (.int (-1000000001))) I (sx_run rw m ln) := by
    intro h
    rw [if_pos h] at e; subst e
    exact hk I (gb_fr.rf _ _) hb
  refine sx_enter (by decide +kernel) (Nat.le_of_ble_eq_true rfl) (sx_go m66 60 rfl (fun VV CC hV hC => ?_))
  refine hC _ _ _ _ _ (c_isWithin ⟨fun (c1 : gs_in w 0 (nI 3) = 0) => bad (Or.inl c1), fun (c1 : ¬ gs_in w 0 (nI 3) = 0) => ?_⟩)
  obtain ⟨c, rfl, -, hc⟩ := gs_in_nat (a := 0) (by omega) c1 (by decide)
  have er : sx_rom 0 c = if nI c = 0 then nI 19 else if nI c = nI 1 then nI 100 else nI 999 := by
    have : c = 0 ∨ c = 1 ∨ c = 2 ∨ c = 3 := by omega
    rcases this with rfl | rfl | rfl | rfl <;> decide +kernel
  refine ⟨c, ⟨rfl, by omega⟩, hC _ _ _ _ _ (c_isWithin ⟨fun (c2 : ¬ gs_in v (nI 0) (sx_rom 0 c) = 0) => ?_, fun (c2 : gs_in v (nI 0) (sx_rom 0 c) = 0) => bad (Or.inr (by rw [← er]; exact c2))⟩)⟩
  rw [if_neg (by rintro (h | h); exact c1 h; rw [← er] at h; exact c2 h), nI_clamp (by omega)] at e
  subst e
  exact ⟨c, ⟨rfl, by omega⟩, c, ⟨rfl, by omega⟩, sx_kk (gb_rule_19 hb (by omega)) (hk _ (gb_fr.up I 25 _ (by omega) (by omega)) (hb.rule (by omega) v hT))⟩
theorem c1_seed {v : Int32} (hb : gb 19 s I) (hT : gs_tn s) (hk : ∀ I', gb_fr 19 I I' → gb 19 (upd s 11 v) I' → K (some (.int (s 11))) I' (sx_run rw m ln)) : sx_C 68 (d + 3) [.ref 15, .int v] I (sx_run rw m ln) K := by
  refine sx_enter (by decide +kernel) (Nat.le_of_ble_eq_true rfl) (sx_go m68 60 rfl (fun VV CC hV hC => ?_))
  exact sx_kk hb.1.2.2.1 (hk _ (gb_fr.up I 19 _ (by omega) (by omega)) (hb.z v hT))
theorem v1_deal {n M : Nat} (hi : gs_inv s) (hn : s 0 = nI n) (hM : n + M ≤ 10) (hT : gs_tn s) (hinv : ∀ k, k ≤ M → gs_inv (gs_dealt n s k)) (htn : ∀ k, k ≤ M → gs_tn (gs_dealt n s k)) (hk : ∀ I', gb_fr 19 I I' → gb 19 (gs_dealt n s M) I' → K (some (.int (nI M))) I' (sx_run rw m ln)) :
    ∀ (r k : Nat) (I' : sx_I), k + r = M → (gb_fr 19 I I' ∧ gb 19 (gs_dealt n s k) I') → sx_V 67 (d + 3) 0 0 K 30 [(0, .ref 15), (2, .int (nI M)), (3, .int (nI k))] [] I' (sx_run rw m ln) := by
  refine sx_for M (fun I' h => ?_) (fun k I' hkc h ih => ?_)
  · refine sx_go m67 60 rfl (fun VV CC hV hC => ?_)
    exact ⟨fun _ => hk I' h.1 h.2, fun (c1 : ¬ nI M ≤ nI M) => absurd (Int32.le_refl _) c1⟩
  · refine sx_go m67 60 rfl (fun VV CC hV hC => ?_)
    refine ⟨fun (c1 : nI M ≤ nI k) => absurd c1 (nI_ge hkc (by omega)), fun _ => hC _ _ _ _ _ (c_drawn_19 (n := n + k) h.2 (hinv k (by omega)) (gs_dealt_N hn k) (by omega) (htn k (by omega)) (fun I2 f2 b2 => hV _ _ _ _ _ _ _ ?_))⟩
    have := ih I2 ⟨h.1.tr f2, b2⟩
    rw [nI_succ k] at this
    exact this
theorem gs_inv.comes {s : Nat → Int32} (h : gs_inv s) {n q p w : Nat} (hn10 : n < 10) (hq : q < 6) (hp : p < 20) (hw : w ≤ 99) : gs_inv (gs_comes s n (nI q) (nI p) (nI w)) := by
  have h0 : gs_inv (upd s 0 (nI (n + 1))) := by
    obtain ⟨-, h3⟩ := h
    refine ⟨⟨n + 1, pk_us, by omega⟩, fun k hk => ?_⟩
    rw [pk_un (by omega), pk_un (by omega), pk_un (by omega), pk_un (by omega), pk_un (by omega)]
    exact h3 k hk
  have h1 := h0.set (k := n) (w := 0) (v := nI q) (by omega) (fun _ => ⟨q, rfl, hq⟩) (by omega) (by omega) (by omega) (by omega)
  have h2 := h1.set (k := n) (w := 1) (v := nI p) (by omega) (by omega) (fun _ => ⟨p, rfl, hp⟩) (by omega) (by omega) (by omega)
  have h3 := h2.set (k := n) (w := 2) (v := nI w) (by omega) (by omega) (by omega) (fun _ => ⟨w, rfl, hw⟩) (by omega) (by omega)
  have h4 := h3.set (k := n) (w := 3) (v := nI 0) (by omega) (by omega) (by omega) (by omega) (fun _ => ⟨0, rfl, by omega⟩) (by omega)
  exact h4.set (k := n) (w := 4) (v := nI 1) (by omega) (by omega) (by omega) (by omega) (by omega) (fun _ => Or.inr rfl)
theorem gs_free_20 (h : Nat → Bool) : ∀ (f p : Nat), p < 20 → gs_free h f p < 20
  | 0, p, hp => hp
  | f + 1, p, hp => by
    unfold gs_free
    cases h p with
    | false => exact hp
    | true => exact gs_free_20 h f ((p + 1) % 20) (by omega)
theorem gs_drawV_lt (s : Nat → Int32) {b : Nat} (hb : 0 < b) : gs_drawV s b < b := Nat.mod_lt _ hb
theorem gs_inv.dealt {s : Nat → Int32} (h : gs_inv s) {n : Nat} : ∀ k, n + k ≤ 10 → gs_inv (gs_dealt n s k)
  | 0, _ => h
  | k + 1, hk => by
    have ih := gs_inv.dealt h (n := n) k (by omega)
    have h3 := ((ih.up (i := 11) (by omega) (by omega) (gs_draw (gs_dealt n s k 11))).up (i := 11) (by omega) (by omega) (gs_draw (gs_drawS (gs_dealt n s k) 11))).up (i := 11) (by omega) (by omega) (gs_draw (gs_drawS (gs_drawS (gs_dealt n s k)) 11))
    exact h3.comes (by omega) (gs_drawV_lt _ (by omega)) (gs_free_20 _ _ _ (gs_drawV_lt _ (by omega))) (by have := gs_drawV_lt (gs_drawS (gs_drawS (gs_dealt n s k))) (b := 60) (by omega); omega)
theorem gs_dealt_1 (n : Nat) (s : Nat → Int32) : ∀ k, n + k ≤ 10 → gs_dealt n s k 1 = s 1 ∧ ∀ i, 62 ≤ i → gs_dealt n s k i = s i
  | 0, _ => ⟨rfl, fun _ _ => rfl⟩
  | k + 1, hk => by
    obtain ⟨h1, h2⟩ := gs_dealt_1 n s k (by omega)
    have e : ∀ i, i ≠ 0 → i ≠ 11 → (i < 12 ∨ 62 ≤ i) → gs_dealt n s (k + 1) i = gs_dealt n s k i := by
      intro i h3 h4 h5
      show gs_deal1 (n + k) (gs_dealt n s k) i = _
      unfold gs_deal1 gs_comes gs_set gs_drawS
      rw [pk_un (by omega), pk_un (by omega), pk_un (by omega), pk_un (by omega), pk_un (by omega), pk_un h3, pk_un h4, pk_un h4, pk_un h4]
    exact ⟨(e 1 (by omega) (by omega) (by omega)).trans h1, fun i hi => (e i (by omega) (by omega) (by omega)).trans (h2 i hi)⟩
theorem c1_deal {v : Int32} (hb : gb 19 s I) (hi : gs_inv s) (hT : gs_tn s) (hk : ∀ I', gb_fr 19 I I' → gb 19 (gs_deal s v).1 I' → K (some (.int (gs_deal s v).2)) I' (sx_run rw m ln)) : sx_C 67 (d + 4) [.ref 15, .int v] I (sx_run rw m ln) K := by
  obtain ⟨⟨n, hn, hn10⟩, -⟩ := id hi
  generalize e : gs_deal s v = r at hk
  unfold gs_deal at e
  refine sx_enter (by decide +kernel) (Nat.le_of_ble_eq_true rfl) (sx_go m67 60 rfl (fun VV CC hV hC => ?_))
  refine hC _ _ _ _ _ (c_isWithin ⟨fun (c1 : ¬ gs_in v (nI 1) (nI 10) = 0) => ?_, fun (c1 : gs_in v (nI 1) (nI 10) = 0) => ?_⟩)
  · obtain ⟨c, rfl, h1, h2⟩ := gs_in_nat (by decide) c1 (by decide)
    rw [if_neg c1, gs_N_eq hn hn10, nI_clamp (by omega)] at e
    subst e
    refine hC _ _ _ _ _ (c_min ?_)
    have em : gs_min (nI c) (nI 10 - I 19 1) = nI (min c (10 - n)) := by
      rw [hb.1.1, hn, pk_sub (by omega)]
      unfold gs_min
      by_cases h : 10 - n < c
      · rw [if_pos (nI_lt h (by omega))]; congr 1; omega
      · rw [if_neg (nI_nlt (by omega) (by omega))]; congr 1; omega
    rw [em]
    have htn : ∀ k, k ≤ min c (10 - n) → gs_tn (gs_dealt n s k) := fun k hk2 => by
      obtain ⟨T, t1, t2⟩ := hT
      exact ⟨T, (gs_dealt_1 n s k (by omega)).1.trans t1, t2⟩
    refine hV _ _ _ _ _ _ _ ?_
    exact v1_deal (d := d + 1) hi hn (by omega) hT (fun k hk2 => hi.dealt k (by omega)) htn hk (min c (10 - n)) 0 I (by omega) ⟨gb_fr.rf _ _, hb⟩
  · rw [if_pos c1] at e
    subst e
    exact hk I (gb_fr.rf _ _) hb
end
