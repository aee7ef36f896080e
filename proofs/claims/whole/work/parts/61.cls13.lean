/-! ===== the class: sheets ===== -/
theorem gs_tp_at (f : Nat → Int32) (t : Nat) (w : Nat → Int32) : ∀ k i, gs_tp f t w k i = if t ≤ i ∧ i < t + k then w (i - t) else f i
  | 0, i => (if_neg (by omega)).symm
  | k + 1, i => by
    show upd (gs_tp f t w k) (t + k) (w k) i = _
    by_cases e : i = t + k
    · subst e
      rw [pk_us, if_pos (by omega)]; congr 1; omega
    · rw [pk_un e, gs_tp_at f t w k i]
      by_cases h : t ≤ i ∧ i < t + k
      · rw [if_pos h, if_pos (by omega)]
      · rw [if_neg h, if_neg (by omega)]
theorem gs_short (v : Int32) : (v <<< (nI 16 &&& 31)) >>> (nI 16 &&& 31) = v.toInt16.toInt32 := by
  have e16 : nI 16 &&& 31 = 16 := by decide +kernel
  rw [e16]
  apply Int32.toInt_inj.mp
  rw [pk_shr _ 16 16 (by decide +kernel), Int16.toInt_toInt32, Int32.toInt_toInt16, Int.shiftRight_eq_div_pow, Int.bmod_def]
  have h1 := pk_shl v 16 16 (by decide +kernel)
  have h2 : (v <<< 16).toInt = (v <<< 16).toBitVec.toInt := rfl
  have h3 : v.toInt = v.toBitVec.toInt := rfl
  rw [h2, h3, BitVec.toInt_eq_toNat_cond, BitVec.toInt_eq_toNat_cond, h1]
  have h4 := v.toBitVec.isLt
  generalize v.toBitVec.toNat = n at *
  split <;> split <;> split <;> omega
/-- the sheets' cells against the reference's rows -/
def gh (S Z R : Nat → Int32) (I : sx_I) : Prop := ∀ j, j < 4 → I (55 + 2 * j) 0 = S j ∧ I (55 + 2 * j) 1 = Z j ∧ ∀ i, i < 24 → I (56 + 2 * j) i = R (24 * j + i)
def gh_num (x : Int32) : Prop := x = -1000000005 ∨ (-99999 ≤ x ∧ x ≤ nI 99999)
def gh_ok (S Z R : Nat → Int32) : Prop := ∀ j, j < 4 → (S j = -1 ∨ S j = 0 ∨ S j = nI 1) ∧ (∃ c, Z j = nI c ∧ c ≤ 24) ∧ ∀ i, i < 24 → gh_num (R (24 * j + i))
theorem gh.fr {S Z R : Nat → Int32} {I J : sx_I} (h : gh S Z R I) (hJ : ∀ a, 55 ≤ a → a ≤ 62 → J a = I a) : gh S Z R J := by
  intro j hj
  rw [hJ _ (by omega) (by omega), hJ _ (by omega) (by omega)]
  exact h j hj
theorem gh.set {S Z R R' : Nat → Int32} {I J : sx_I} {j : Nat} {a b : Int32} (h : gh S Z R I) (hJ : ∀ q, q ≠ 55 + 2 * j → q ≠ 56 + 2 * j → J q = I q) (h0 : J (55 + 2 * j) 0 = a) (h1 : J (55 + 2 * j) 1 = b) (h2 : ∀ i, i < 24 → J (56 + 2 * j) i = R' (24 * j + i)) (h3 : ∀ i, (i < 24 * j ∨ 24 * j + 24 ≤ i) → R' i = R i) : gh (upd S j a) (upd Z j b) R' J := by
  intro k hk
  by_cases e : k = j
  · subst e
    rw [pk_us, pk_us]
    exact ⟨h0, h1, h2⟩
  · rw [pk_un e, pk_un e, hJ _ (by omega) (by omega), hJ _ (by omega) (by omega)]
    obtain ⟨q1, q2, q3⟩ := h k hk
    exact ⟨q1, q2, fun i hi => by rw [h3 _ (by omega)]; exact q3 i hi⟩
abbrev gh_hp (z p c : Int32) : Prop := ¬ (p < 0 ∨ c < 0 ∨ z.toNatClampNeg < p.toNatClampNeg + c.toNatClampNeg)
section
variable {d m : Nat} {I : sx_I} {rw : Nat → Nat → Option Nat} {ln : Nat → Nat} {K : sx_K} {s S Z R : Nat → Int32}
theorem v_fill_55 {x : Int32} (hk : ∀ J, (∀ a, a ≠ 56 → J a = I a) → (∀ i, i < 24 → J 56 i = x) → K none J (sx_run rw m ln)) :
    ∀ (r k : Nat) (J : sx_I), k + r = 24 → ((∀ a, a ≠ 56 → J a = I a) ∧ ∀ i, i < k → J 56 i = x) → sx_V 226 (d + 1) 0 0 K 5 [(0, .ref 56), (1, .int x), (2, .int (nI k)), (3, .int (nI 24))] [] J (sx_run rw m ln) := by
  refine sx_for 24 (fun J h => ?_) (fun k J hkc h ih => ?_)
  · refine sx_go m226 60 rfl (fun VV CC hV hC => ?_)
    exact ⟨fun _ => hk J h.1 h.2, fun (c1 : ¬ nI 24 ≤ nI 24) => absurd (Int32.le_refl _) c1⟩
  · refine sx_go m226 60 rfl (fun VV CC hV hC => ?_)
    refine ⟨fun (c1 : nI 24 ≤ nI k) => absurd c1 (nI_ge hkc (by omega)), fun _ => ⟨k, ⟨rfl, by omega⟩, hV _ _ _ _ _ _ _ ?_⟩⟩
    have := ih (sx_up J 56 (upd (J 56) k x)) ⟨fun a ha => by rw [sx_up_ne ha]; exact h.1 a ha, fun i hi => by
      rw [sx_up_same]
      by_cases e : i = k
      · subst e; exact pk_us
      · rw [pk_un e]; exact h.2 i (by omega)⟩
    rw [nI_succ k] at this
    exact this
theorem c_fill_55 {x : Int32} (hk : ∀ J, (∀ a, a ≠ 56 → J a = I a) → (∀ i, i < 24 → J 56 i = x) → K none J (sx_run rw m ln)) : sx_C 226 (d + 1) [.ref 56, .int x] I (sx_run rw m ln) K := by
  refine sx_enter (by decide +kernel) (Nat.le_of_ble_eq_true rfl) (sx_go m226 60 rfl (fun VV CC hV hC => hV _ _ _ _ _ _ _ ?_))
  exact v_fill_55 (d := d) hk 24 0 I (by omega) ⟨fun _ _ => rfl, fun i hi => absurd hi (Nat.not_lt_zero i)⟩
theorem c_start_55 {a b : Int32} (hk : ∀ J, (∀ q, q ≠ 55 → q ≠ 56 → J q = I q) → J 55 0 = a → J 55 1 = b → (∀ i, i < 24 → J 56 i = 0) → K none J (sx_run rw m ln)) : sx_C 52 (d + 2) [.ref 55, .int a, .int b] I (sx_run rw m ln) K := by
  refine sx_enter (by decide +kernel) (Nat.le_of_ble_eq_true rfl) (sx_go m52 60 rfl (fun VV CC hV hC => ?_))
  refine hC _ _ _ _ _ (c_fill_55 (fun J h1 h2 => hk J (fun q q1 q2 => ?_) ?_ ?_ h2))
  · rw [h1 q q2, sx_up_ne q1, sx_up_ne q1]
  · rw [h1 55 (by omega), sx_up_same, pk_un (by omega), sx_up_same, pk_us]
  · rw [h1 55 (by omega), sx_up_same, pk_us]
theorem c_hasPl_55 {z : Nat} {p c : Int32} (hz : I 55 1 = nI z) (hz24 : z ≤ 24) (h0 : ¬ gh_hp (nI z) p c → K (some (.int (nI 0))) I (sx_run rw m ln)) (h1 : gh_hp (nI z) p c → K (some (.int (nI 1))) I (sx_run rw m ln)) : sx_C 55 (d + 1) [.ref 55, .int p, .int c] I (sx_run rw m ln) K := by
  refine sx_enter (by decide +kernel) (Nat.le_of_ble_eq_true rfl) (sx_go m55 60 rfl (fun VV CC hV hC => ?_))
  refine ⟨fun (c1 : p < 0) => ⟨Or.inl rfl, h0 (fun h => h (Or.inl c1))⟩, fun (c1 : ¬ p < 0) => ⟨fun (c2 : c < 0) => ⟨Or.inl rfl, h0 (fun h => h (Or.inr (Or.inl c2)))⟩, fun (c2 : ¬ c < 0) => ?_⟩⟩
  obtain ⟨p, rfl, hp⟩ := gs_nat c1
  obtain ⟨c, rfl, hc⟩ := gs_nat c2
  have key : gh_hp (nI z) (nI p) (nI c) ↔ p + c ≤ z := by
    unfold gh_hp
    rw [nI_clamp (by omega), nI_clamp hp, nI_clamp hc]
    refine ⟨fun h => ?_, fun h => ?_⟩
    · refine Nat.le_of_not_lt (fun q => h (Or.inr (Or.inr q)))
    · rintro (q | q | q)
      · exact c1 q
      · exact c2 q
      · omega
  refine ⟨fun (c3 : I 55 1 < nI p) => ⟨Or.inl rfl, h0 (fun h => ?_)⟩, fun (c3 : ¬ I 55 1 < nI p) => ⟨fun (c4 : I 55 1 - nI p < nI c) => ⟨Or.inl rfl, h0 (fun h => ?_)⟩, fun (c4 : ¬ I 55 1 - nI p < nI c) => ⟨Or.inr rfl, h1 ?_⟩⟩⟩
  · have := key.mp h
    rw [hz, nI_ltI (by omega) (by omega)] at c3; omega
  · have := key.mp h
    rw [hz, pk_sub (by omega), nI_ltI (by omega) (by omega)] at c4; omega
  · rw [hz, nI_ltI (by omega) (by omega)] at c3
    rw [hz, pk_sub (by omega), nI_ltI (by omega) (by omega)] at c4
    exact key.mpr (by omega)
theorem sheet1_55 {sort n : Int32} (c3 : ¬ sort = -1) (hs : ¬ gs_in sort (-1) (nI 1) = 0) (c4 : n ≤ nI 24) (c5 : ¬ n < 0) (hg : gh S Z R I) (hk : ∀ J, (∀ q, q ≠ 55 → q ≠ 56 → J q = I q) → gh (upd S 0 sort) (upd Z 0 n) (gs_tp R (24 * 0) (fun _ => 0) 24) J → K (some (.int n)) J (sx_run rw m ln)) : sx_C 87 (d + 4) [.ref 15, .int (nI 0), .int sort, .int n] I (sx_run rw m ln) K := by
  have hsh : ¬ gs_in (nI 0) 0 (nI 3) = 0 := gs_in_c (by omega) (by omega)
  refine sx_enter (by decide +kernel) (Nat.le_of_ble_eq_true rfl) (sx_go m87 60 rfl (fun VV CC hV hC => ?_))
  refine hC _ _ _ _ _ (c_isSheet1 ⟨fun (c1 : gs_in (nI 0) 0 (nI 3) = 0) => absurd c1 hsh, fun _ => hC _ _ _ _ _ (c_isWithin ⟨fun _ => ⟨fun _ => ⟨fun _ => ⟨fun _ => ⟨0, ⟨rfl, by omega⟩, fun b (e : some 55 = some b) => ?_, fun (e : some 55 = none) => by cases e⟩, fun (q : ¬ 0 ≤ n) => absurd (Int32.not_lt.mp c5) q⟩, fun (q : ¬ n ≤ nI 24) => absurd c4 q⟩, fun (q : sort = -1) => absurd q c3⟩, fun (c2 : gs_in sort (-1) (nI 1) = 0) => absurd c2 hs⟩)⟩)
  cases e
  refine hC _ _ _ _ _ (c_start_55 (fun J h1 h2 h3 h4 => hk J h1 (gh.set (j := 0) hg h1 h2 h3 (fun i hi => ?_) (fun i hi => ?_))))
  · rw [gs_tp_at, if_pos (by omega)]; exact h4 i hi
  · rw [gs_tp_at, if_neg (by omega)]
theorem sheet0_55 {sort n : Int32} (c3 : sort = -1) (hs : ¬ gs_in sort (-1) (nI 1) = 0) (hg : gh S Z R I) (hk : ∀ J, (∀ q, q ≠ 55 → q ≠ 56 → J q = I q) → gh (upd S 0 (-1)) (upd Z 0 0) (gs_tp R (24 * 0) (fun _ => 0) 24) J → K (some (.int 0)) J (sx_run rw m ln)) : sx_C 87 (d + 4) [.ref 15, .int (nI 0), .int sort, .int n] I (sx_run rw m ln) K := by
  have hsh : ¬ gs_in (nI 0) 0 (nI 3) = 0 := gs_in_c (by omega) (by omega)
  refine sx_enter (by decide +kernel) (Nat.le_of_ble_eq_true rfl) (sx_go m87 60 rfl (fun VV CC hV hC => ?_))
  refine hC _ _ _ _ _ (c_isSheet1 ⟨fun (c1 : gs_in (nI 0) 0 (nI 3) = 0) => absurd c1 hsh, fun _ => hC _ _ _ _ _ (c_isWithin ⟨fun _ => ⟨fun (q : ¬ sort = -1) => absurd c3 q, fun _ => ⟨0, ⟨rfl, by omega⟩, fun b (e : some 55 = some b) => ?_, fun (e : some 55 = none) => by cases e⟩⟩, fun (c2 : gs_in sort (-1) (nI 1) = 0) => absurd c2 hs⟩)⟩)
  cases e
  refine hC _ _ _ _ _ (c_start_55 (fun J h1 h2 h3 h4 => hk J h1 (gh.set (j := 0) hg h1 h2 h3 (fun i hi => ?_) (fun i hi => ?_))))
  · rw [gs_tp_at, if_pos (by omega)]; exact h4 i hi
  · rw [gs_tp_at, if_neg (by omega)]
theorem v_fill_57 {x : Int32} (hk : ∀ J, (∀ a, a ≠ 58 → J a = I a) → (∀ i, i < 24 → J 58 i = x) → K none J (sx_run rw m ln)) :
    ∀ (r k : Nat) (J : sx_I), k + r = 24 → ((∀ a, a ≠ 58 → J a = I a) ∧ ∀ i, i < k → J 58 i = x) → sx_V 226 (d + 1) 0 0 K 5 [(0, .ref 58), (1, .int x), (2, .int (nI k)), (3, .int (nI 24))] [] J (sx_run rw m ln) := by
  refine sx_for 24 (fun J h => ?_) (fun k J hkc h ih => ?_)
  · refine sx_go m226 60 rfl (fun VV CC hV hC => ?_)
    exact ⟨fun _ => hk J h.1 h.2, fun (c1 : ¬ nI 24 ≤ nI 24) => absurd (Int32.le_refl _) c1⟩
  · refine sx_go m226 60 rfl (fun VV CC hV hC => ?_)
    refine ⟨fun (c1 : nI 24 ≤ nI k) => absurd c1 (nI_ge hkc (by omega)), fun _ => ⟨k, ⟨rfl, by omega⟩, hV _ _ _ _ _ _ _ ?_⟩⟩
    have := ih (sx_up J 58 (upd (J 58) k x)) ⟨fun a ha => by rw [sx_up_ne ha]; exact h.1 a ha, fun i hi => by
      rw [sx_up_same]
      by_cases e : i = k
      · subst e; exact pk_us
      · rw [pk_un e]; exact h.2 i (by omega)⟩
    rw [nI_succ k] at this
    exact this
theorem c_fill_57 {x : Int32} (hk : ∀ J, (∀ a, a ≠ 58 → J a = I a) → (∀ i, i < 24 → J 58 i = x) → K none J (sx_run rw m ln)) : sx_C 226 (d + 1) [.ref 58, .int x] I (sx_run rw m ln) K := by
  refine sx_enter (by decide +kernel) (Nat.le_of_ble_eq_true rfl) (sx_go m226 60 rfl (fun VV CC hV hC => hV _ _ _ _ _ _ _ ?_))
  exact v_fill_57 (d := d) hk 24 0 I (by omega) ⟨fun _ _ => rfl, fun i hi => absurd hi (Nat.not_lt_zero i)⟩
theorem c_start_57 {a b : Int32} (hk : ∀ J, (∀ q, q ≠ 57 → q ≠ 58 → J q = I q) → J 57 0 = a → J 57 1 = b → (∀ i, i < 24 → J 58 i = 0) → K none J (sx_run rw m ln)) : sx_C 52 (d + 2) [.ref 57, .int a, .int b] I (sx_run rw m ln) K := by
  refine sx_enter (by decide +kernel) (Nat.le_of_ble_eq_true rfl) (sx_go m52 60 rfl (fun VV CC hV hC => ?_))
  refine hC _ _ _ _ _ (c_fill_57 (fun J h1 h2 => hk J (fun q q1 q2 => ?_) ?_ ?_ h2))
  · rw [h1 q q2, sx_up_ne q1, sx_up_ne q1]
  · rw [h1 57 (by omega), sx_up_same, pk_un (by omega), sx_up_same, pk_us]
  · rw [h1 57 (by omega), sx_up_same, pk_us]
theorem c_hasPl_57 {z : Nat} {p c : Int32} (hz : I 57 1 = nI z) (hz24 : z ≤ 24) (h0 : ¬ gh_hp (nI z) p c → K (some (.int (nI 0))) I (sx_run rw m ln)) (h1 : gh_hp (nI z) p c → K (some (.int (nI 1))) I (sx_run rw m ln)) : sx_C 55 (d + 1) [.ref 57, .int p, .int c] I (sx_run rw m ln) K := by
  refine sx_enter (by decide +kernel) (Nat.le_of_ble_eq_true rfl) (sx_go m55 60 rfl (fun VV CC hV hC => ?_))
  refine ⟨fun (c1 : p < 0) => ⟨Or.inl rfl, h0 (fun h => h (Or.inl c1))⟩, fun (c1 : ¬ p < 0) => ⟨fun (c2 : c < 0) => ⟨Or.inl rfl, h0 (fun h => h (Or.inr (Or.inl c2)))⟩, fun (c2 : ¬ c < 0) => ?_⟩⟩
  obtain ⟨p, rfl, hp⟩ := gs_nat c1
  obtain ⟨c, rfl, hc⟩ := gs_nat c2
  have key : gh_hp (nI z) (nI p) (nI c) ↔ p + c ≤ z := by
    unfold gh_hp
    rw [nI_clamp (by omega), nI_clamp hp, nI_clamp hc]
    refine ⟨fun h => ?_, fun h => ?_⟩
    · refine Nat.le_of_not_lt (fun q => h (Or.inr (Or.inr q)))
    · rintro (q | q | q)
      · exact c1 q
      · exact c2 q
      · omega
  refine ⟨fun (c3 : I 57 1 < nI p) => ⟨Or.inl rfl, h0 (fun h => ?_)⟩, fun (c3 : ¬ I 57 1 < nI p) => ⟨fun (c4 : I 57 1 - nI p < nI c) => ⟨Or.inl rfl, h0 (fun h => ?_)⟩, fun (c4 : ¬ I 57 1 - nI p < nI c) => ⟨Or.inr rfl, h1 ?_⟩⟩⟩
  · have := key.mp h
    rw [hz, nI_ltI (by omega) (by omega)] at c3; omega
  · have := key.mp h
    rw [hz, pk_sub (by omega), nI_ltI (by omega) (by omega)] at c4; omega
  · rw [hz, nI_ltI (by omega) (by omega)] at c3
    rw [hz, pk_sub (by omega), nI_ltI (by omega) (by omega)] at c4
    exact key.mpr (by omega)
theorem sheet1_57 {sort n : Int32} (c3 : ¬ sort = -1) (hs : ¬ gs_in sort (-1) (nI 1) = 0) (c4 : n ≤ nI 24) (c5 : ¬ n < 0) (hg : gh S Z R I) (hk : ∀ J, (∀ q, q ≠ 57 → q ≠ 58 → J q = I q) → gh (upd S 1 sort) (upd Z 1 n) (gs_tp R (24 * 1) (fun _ => 0) 24) J → K (some (.int n)) J (sx_run rw m ln)) : sx_C 87 (d + 4) [.ref 15, .int (nI 1), .int sort, .int n] I (sx_run rw m ln) K := by
  have hsh : ¬ gs_in (nI 1) 0 (nI 3) = 0 := gs_in_c (by omega) (by omega)
  refine sx_enter (by decide +kernel) (Nat.le_of_ble_eq_true rfl) (sx_go m87 60 rfl (fun VV CC hV hC => ?_))
  refine hC _ _ _ _ _ (c_isSheet1 ⟨fun (c1 : gs_in (nI 1) 0 (nI 3) = 0) => absurd c1 hsh, fun _ => hC _ _ _ _ _ (c_isWithin ⟨fun _ => ⟨fun _ => ⟨fun _ => ⟨fun _ => ⟨1, ⟨rfl, by omega⟩, fun b (e : some 57 = some b) => ?_, fun (e : some 57 = none) => by cases e⟩, fun (q : ¬ 0 ≤ n) => absurd (Int32.not_lt.mp c5) q⟩, fun (q : ¬ n ≤ nI 24) => absurd c4 q⟩, fun (q : sort = -1) => absurd q c3⟩, fun (c2 : gs_in sort (-1) (nI 1) = 0) => absurd c2 hs⟩)⟩)
  cases e
  refine hC _ _ _ _ _ (c_start_57 (fun J h1 h2 h3 h4 => hk J h1 (gh.set (j := 1) hg h1 h2 h3 (fun i hi => ?_) (fun i hi => ?_))))
  · rw [gs_tp_at, if_pos (by omega)]; exact h4 i hi
  · rw [gs_tp_at, if_neg (by omega)]
theorem sheet0_57 {sort n : Int32} (c3 : sort = -1) (hs : ¬ gs_in sort (-1) (nI 1) = 0) (hg : gh S Z R I) (hk : ∀ J, (∀ q, q ≠ 57 → q ≠ 58 → J q = I q) → gh (upd S 1 (-1)) (upd Z 1 0) (gs_tp R (24 * 1) (fun _ => 0) 24) J → K (some (.int 0)) J (sx_run rw m ln)) : sx_C 87 (d + 4) [.ref 15, .int (nI 1), .int sort, .int n] I (sx_run rw m ln) K := by
  have hsh : ¬ gs_in (nI 1) 0 (nI 3) = 0 := gs_in_c (by omega) (by omega)
  refine sx_enter (by decide +kernel) (Nat.le_of_ble_eq_true rfl) (sx_go m87 60 rfl (fun VV CC hV hC => ?_))
  refine hC _ _ _ _ _ (c_isSheet1 ⟨fun (c1 : gs_in (nI 1) 0 (nI 3) = 0) => absurd c1 hsh, fun _ => hC _ _ _ _ _ (c_isWithin ⟨fun _ => ⟨fun (q : ¬ sort = -1) => absurd c3 q, fun _ => ⟨1, ⟨rfl, by omega⟩, fun b (e : some 57 = some b) => ?_, fun (e : some 57 = none) => by cases e⟩⟩, fun (c2 : gs_in sort (-1) (nI 1) = 0) => absurd c2 hs⟩)⟩)
  cases e
  refine hC _ _ _ _ _ (c_start_57 (fun J h1 h2 h3 h4 => hk J h1 (gh.set (j := 1) hg h1 h2 h3 (fun i hi => ?_) (fun i hi => ?_))))
  · rw [gs_tp_at, if_pos (by omega)]; exact h4 i hi
  · rw [gs_tp_at, if_neg (by omega)]
theorem v_fill_59 {x : Int32} (hk : ∀ J, (∀ a, a ≠ 60 → J a = I a) → (∀ i, i < 24 → J 60 i = x) → K none J (sx_run rw m ln)) :
    ∀ (r k : Nat) (J : sx_I), k + r = 24 → ((∀ a, a ≠ 60 → J a = I a) ∧ ∀ i, i < k → J 60 i = x) → sx_V 226 (d + 1) 0 0 K 5 [(0, .ref 60), (1, .int x), (2, .int (nI k)), (3, .int (nI 24))] [] J (sx_run rw m ln) := by
  refine sx_for 24 (fun J h => ?_) (fun k J hkc h ih => ?_)
  · refine sx_go m226 60 rfl (fun VV CC hV hC => ?_)
    exact ⟨fun _ => hk J h.1 h.2, fun (c1 : ¬ nI 24 ≤ nI 24) => absurd (Int32.le_refl _) c1⟩
  · refine sx_go m226 60 rfl (fun VV CC hV hC => ?_)
    refine ⟨fun (c1 : nI 24 ≤ nI k) => absurd c1 (nI_ge hkc (by omega)), fun _ => ⟨k, ⟨rfl, by omega⟩, hV _ _ _ _ _ _ _ ?_⟩⟩
    have := ih (sx_up J 60 (upd (J 60) k x)) ⟨fun a ha => by rw [sx_up_ne ha]; exact h.1 a ha, fun i hi => by
      rw [sx_up_same]
      by_cases e : i = k
      · subst e; exact pk_us
      · rw [pk_un e]; exact h.2 i (by omega)⟩
    rw [nI_succ k] at this
    exact this
theorem c_fill_59 {x : Int32} (hk : ∀ J, (∀ a, a ≠ 60 → J a = I a) → (∀ i, i < 24 → J 60 i = x) → K none J (sx_run rw m ln)) : sx_C 226 (d + 1) [.ref 60, .int x] I (sx_run rw m ln) K := by
  refine sx_enter (by decide +kernel) (Nat.le_of_ble_eq_true rfl) (sx_go m226 60 rfl (fun VV CC hV hC => hV _ _ _ _ _ _ _ ?_))
  exact v_fill_59 (d := d) hk 24 0 I (by omega) ⟨fun _ _ => rfl, fun i hi => absurd hi (Nat.not_lt_zero i)⟩
theorem c_start_59 {a b : Int32} (hk : ∀ J, (∀ q, q ≠ 59 → q ≠ 60 → J q = I q) → J 59 0 = a → J 59 1 = b → (∀ i, i < 24 → J 60 i = 0) → K none J (sx_run rw m ln)) : sx_C 52 (d + 2) [.ref 59, .int a, .int b] I (sx_run rw m ln) K := by
  refine sx_enter (by decide +kernel) (Nat.le_of_ble_eq_true rfl) (sx_go m52 60 rfl (fun VV CC hV hC => ?_))
  refine hC _ _ _ _ _ (c_fill_59 (fun J h1 h2 => hk J (fun q q1 q2 => ?_) ?_ ?_ h2))
  · rw [h1 q q2, sx_up_ne q1, sx_up_ne q1]
  · rw [h1 59 (by omega), sx_up_same, pk_un (by omega), sx_up_same, pk_us]
  · rw [h1 59 (by omega), sx_up_same, pk_us]
theorem c_hasPl_59 {z : Nat} {p c : Int32} (hz : I 59 1 = nI z) (hz24 : z ≤ 24) (h0 : ¬ gh_hp (nI z) p c → K (some (.int (nI 0))) I (sx_run rw m ln)) (h1 : gh_hp (nI z) p c → K (some (.int (nI 1))) I (sx_run rw m ln)) : sx_C 55 (d + 1) [.ref 59, .int p, .int c] I (sx_run rw m ln) K := by
  refine sx_enter (by decide +kernel) (Nat.le_of_ble_eq_true rfl) (sx_go m55 60 rfl (fun VV CC hV hC => ?_))
  refine ⟨fun (c1 : p < 0) => ⟨Or.inl rfl, h0 (fun h => h (Or.inl c1))⟩, fun (c1 : ¬ p < 0) => ⟨fun (c2 : c < 0) => ⟨Or.inl rfl, h0 (fun h => h (Or.inr (Or.inl c2)))⟩, fun (c2 : ¬ c < 0) => ?_⟩⟩
  obtain ⟨p, rfl, hp⟩ := gs_nat c1
  obtain ⟨c, rfl, hc⟩ := gs_nat c2
  have key : gh_hp (nI z) (nI p) (nI c) ↔ p + c ≤ z := by
    unfold gh_hp
    rw [nI_clamp (by omega), nI_clamp hp, nI_clamp hc]
    refine ⟨fun h => ?_, fun h => ?_⟩
    · refine Nat.le_of_not_lt (fun q => h (Or.inr (Or.inr q)))
    · rintro (q | q | q)
      · exact c1 q
      · exact c2 q
      · omega
  refine ⟨fun (c3 : I 59 1 < nI p) => ⟨Or.inl rfl, h0 (fun h => ?_)⟩, fun (c3 : ¬ I 59 1 < nI p) => ⟨fun (c4 : I 59 1 - nI p < nI c) => ⟨Or.inl rfl, h0 (fun h => ?_)⟩, fun (c4 : ¬ I 59 1 - nI p < nI c) => ⟨Or.inr rfl, h1 ?_⟩⟩⟩
  · have := key.mp h
    rw [hz, nI_ltI (by omega) (by omega)] at c3; omega
  · have := key.mp h
    rw [hz, pk_sub (by omega), nI_ltI (by omega) (by omega)] at c4; omega
  · rw [hz, nI_ltI (by omega) (by omega)] at c3
    rw [hz, pk_sub (by omega), nI_ltI (by omega) (by omega)] at c4
    exact key.mpr (by omega)
theorem sheet1_59 {sort n : Int32} (c3 : ¬ sort = -1) (hs : ¬ gs_in sort (-1) (nI 1) = 0) (c4 : n ≤ nI 24) (c5 : ¬ n < 0) (hg : gh S Z R I) (hk : ∀ J, (∀ q, q ≠ 59 → q ≠ 60 → J q = I q) → gh (upd S 2 sort) (upd Z 2 n) (gs_tp R (24 * 2) (fun _ => 0) 24) J → K (some (.int n)) J (sx_run rw m ln)) : sx_C 87 (d + 4) [.ref 15, .int (nI 2), .int sort, .int n] I (sx_run rw m ln) K := by
  have hsh : ¬ gs_in (nI 2) 0 (nI 3) = 0 := gs_in_c (by omega) (by omega)
  refine sx_enter (by decide +kernel) (Nat.le_of_ble_eq_true rfl) (sx_go m87 60 rfl (fun VV CC hV hC => ?_))
  refine hC _ _ _ _ _ (c_isSheet1 ⟨fun (c1 : gs_in (nI 2) 0 (nI 3) = 0) => absurd c1 hsh, fun _ => hC _ _ _ _ _ (c_isWithin ⟨fun _ => ⟨fun _ => ⟨fun _ => ⟨fun _ => ⟨2, ⟨rfl, by omega⟩, fun b (e : some 59 = some b) => ?_, fun (e : some 59 = none) => by cases e⟩, fun (q : ¬ 0 ≤ n) => absurd (Int32.not_lt.mp c5) q⟩, fun (q : ¬ n ≤ nI 24) => absurd c4 q⟩, fun (q : sort = -1) => absurd q c3⟩, fun (c2 : gs_in sort (-1) (nI 1) = 0) => absurd c2 hs⟩)⟩)
  cases e
  refine hC _ _ _ _ _ (c_start_59 (fun J h1 h2 h3 h4 => hk J h1 (gh.set (j := 2) hg h1 h2 h3 (fun i hi => ?_) (fun i hi => ?_))))
  · rw [gs_tp_at, if_pos (by omega)]; exact h4 i hi
  · rw [gs_tp_at, if_neg (by omega)]
theorem sheet0_59 {sort n : Int32} (c3 : sort = -1) (hs : ¬ gs_in sort (-1) (nI 1) = 0) (hg : gh S Z R I) (hk : ∀ J, (∀ q, q ≠ 59 → q ≠ 60 → J q = I q) → gh (upd S 2 (-1)) (upd Z 2 0) (gs_tp R (24 * 2) (fun _ => 0) 24) J → K (some (.int 0)) J (sx_run rw m ln)) : sx_C 87 (d + 4) [.ref 15, .int (nI 2), .int sort, .int n] I (sx_run rw m ln) K := by
  have hsh : ¬ gs_in (nI 2) 0 (nI 3) = 0 := gs_in_c (by omega) (by omega)
  refine sx_enter (by decide +kernel) (Nat.le_of_ble_eq_true rfl) (sx_go m87 60 rfl (fun VV CC hV hC => ?_))
  refine hC _ _ _ _ _ (c_isSheet1 ⟨fun (c1 : gs_in (nI 2) 0 (nI 3) = 0) => absurd c1 hsh, fun _ => hC _ _ _ _ _ (c_isWithin ⟨fun _ => ⟨fun (q : ¬ sort = -1) => absurd c3 q, fun _ => ⟨2, ⟨rfl, by omega⟩, fun b (e : some 59 = some b) => ?_, fun (e : some 59 = none) => by cases e⟩⟩, fun (c2 : gs_in sort (-1) (nI 1) = 0) => absurd c2 hs⟩)⟩)
  cases e
  refine hC _ _ _ _ _ (c_start_59 (fun J h1 h2 h3 h4 => hk J h1 (gh.set (j := 2) hg h1 h2 h3 (fun i hi => ?_) (fun i hi => ?_))))
  · rw [gs_tp_at, if_pos (by omega)]; exact h4 i hi
  · rw [gs_tp_at, if_neg (by omega)]
theorem v_fill_61 {x : Int32} (hk : ∀ J, (∀ a, a ≠ 62 → J a = I a) → (∀ i, i < 24 → J 62 i = x) → K none J (sx_run rw m ln)) :
    ∀ (r k : Nat) (J : sx_I), k + r = 24 → ((∀ a, a ≠ 62 → J a = I a) ∧ ∀ i, i < k → J 62 i = x) → sx_V 226 (d + 1) 0 0 K 5 [(0, .ref 62), (1, .int x), (2, .int (nI k)), (3, .int (nI 24))] [] J (sx_run rw m ln) := by
  refine sx_for 24 (fun J h => ?_) (fun k J hkc h ih => ?_)
  · refine sx_go m226 60 rfl (fun VV CC hV hC => ?_)
    exact ⟨fun _ => hk J h.1 h.2, fun (c1 : ¬ nI 24 ≤ nI 24) => absurd (Int32.le_refl _) c1⟩
  · refine sx_go m226 60 rfl (fun VV CC hV hC => ?_)
    refine ⟨fun (c1 : nI 24 ≤ nI k) => absurd c1 (nI_ge hkc (by omega)), fun _ => ⟨k, ⟨rfl, by omega⟩, hV _ _ _ _ _ _ _ ?_⟩⟩
    have := ih (sx_up J 62 (upd (J 62) k x)) ⟨fun a ha => by rw [sx_up_ne ha]; exact h.1 a ha, fun i hi => by
      rw [sx_up_same]
      by_cases e : i = k
      · subst e; exact pk_us
      · rw [pk_un e]; exact h.2 i (by omega)⟩
    rw [nI_succ k] at this
    exact this
theorem c_fill_61 {x : Int32} (hk : ∀ J, (∀ a, a ≠ 62 → J a = I a) → (∀ i, i < 24 → J 62 i = x) → K none J (sx_run rw m ln)) : sx_C 226 (d + 1) [.ref 62, .int x] I (sx_run rw m ln) K := by
  refine sx_enter (by decide +kernel) (Nat.le_of_ble_eq_true rfl) (sx_go m226 60 rfl (fun VV CC hV hC => hV _ _ _ _ _ _ _ ?_))
  exact v_fill_61 (d := d) hk 24 0 I (by omega) ⟨fun _ _ => rfl, fun i hi => absurd hi (Nat.not_lt_zero i)⟩
theorem c_start_61 {a b : Int32} (hk : ∀ J, (∀ q, q ≠ 61 → q ≠ 62 → J q = I q) → J 61 0 = a → J 61 1 = b → (∀ i, i < 24 → J 62 i = 0) → K none J (sx_run rw m ln)) : sx_C 52 (d + 2) [.ref 61, .int a, .int b] I (sx_run rw m ln) K := by
  refine sx_enter (by decide +kernel) (Nat.le_of_ble_eq_true rfl) (sx_go m52 60 rfl (fun VV CC hV hC => ?_))
  refine hC _ _ _ _ _ (c_fill_61 (fun J h1 h2 => hk J (fun q q1 q2 => ?_) ?_ ?_ h2))
  · rw [h1 q q2, sx_up_ne q1, sx_up_ne q1]
  · rw [h1 61 (by omega), sx_up_same, pk_un (by omega), sx_up_same, pk_us]
  · rw [h1 61 (by omega), sx_up_same, pk_us]
theorem c_hasPl_61 {z : Nat} {p c : Int32} (hz : I 61 1 = nI z) (hz24 : z ≤ 24) (h0 : ¬ gh_hp (nI z) p c → K (some (.int (nI 0))) I (sx_run rw m ln)) (h1 : gh_hp (nI z) p c → K (some (.int (nI 1))) I (sx_run rw m ln)) : sx_C 55 (d + 1) [.ref 61, .int p, .int c] I (sx_run rw m ln) K := by
  refine sx_enter (by decide +kernel) (Nat.le_of_ble_eq_true rfl) (sx_go m55 60 rfl (fun VV CC hV hC => ?_))
  refine ⟨fun (c1 : p < 0) => ⟨Or.inl rfl, h0 (fun h => h (Or.inl c1))⟩, fun (c1 : ¬ p < 0) => ⟨fun (c2 : c < 0) => ⟨Or.inl rfl, h0 (fun h => h (Or.inr (Or.inl c2)))⟩, fun (c2 : ¬ c < 0) => ?_⟩⟩
  obtain ⟨p, rfl, hp⟩ := gs_nat c1
  obtain ⟨c, rfl, hc⟩ := gs_nat c2
  have key : gh_hp (nI z) (nI p) (nI c) ↔ p + c ≤ z := by
    unfold gh_hp
    rw [nI_clamp (by omega), nI_clamp hp, nI_clamp hc]
    refine ⟨fun h => ?_, fun h => ?_⟩
    · refine Nat.le_of_not_lt (fun q => h (Or.inr (Or.inr q)))
    · rintro (q | q | q)
      · exact c1 q
      · exact c2 q
      · omega
  refine ⟨fun (c3 : I 61 1 < nI p) => ⟨Or.inl rfl, h0 (fun h => ?_)⟩, fun (c3 : ¬ I 61 1 < nI p) => ⟨fun (c4 : I 61 1 - nI p < nI c) => ⟨Or.inl rfl, h0 (fun h => ?_)⟩, fun (c4 : ¬ I 61 1 - nI p < nI c) => ⟨Or.inr rfl, h1 ?_⟩⟩⟩
  · have := key.mp h
    rw [hz, nI_ltI (by omega) (by omega)] at c3; omega
  · have := key.mp h
    rw [hz, pk_sub (by omega), nI_ltI (by omega) (by omega)] at c4; omega
  · rw [hz, nI_ltI (by omega) (by omega)] at c3
    rw [hz, pk_sub (by omega), nI_ltI (by omega) (by omega)] at c4
    exact key.mpr (by omega)
theorem sheet1_61 {sort n : Int32} (c3 : ¬ sort = -1) (hs : ¬ gs_in sort (-1) (nI 1) = 0) (c4 : n ≤ nI 24) (c5 : ¬ n < 0) (hg : gh S Z R I) (hk : ∀ J, (∀ q, q ≠ 61 → q ≠ 62 → J q = I q) → gh (upd S 3 sort) (upd Z 3 n) (gs_tp R (24 * 3) (fun _ => 0) 24) J → K (some (.int n)) J (sx_run rw m ln)) : sx_C 87 (d + 4) [.ref 15, .int (nI 3), .int sort, .int n] I (sx_run rw m ln) K := by
  have hsh : ¬ gs_in (nI 3) 0 (nI 3) = 0 := gs_in_c (by omega) (by omega)
  refine sx_enter (by decide +kernel) (Nat.le_of_ble_eq_true rfl) (sx_go m87 60 rfl (fun VV CC hV hC => ?_))
  refine hC _ _ _ _ _ (c_isSheet1 ⟨fun (c1 : gs_in (nI 3) 0 (nI 3) = 0) => absurd c1 hsh, fun _ => hC _ _ _ _ _ (c_isWithin ⟨fun _ => ⟨fun _ => ⟨fun _ => ⟨fun _ => ⟨3, ⟨rfl, by omega⟩, fun b (e : some 61 = some b) => ?_, fun (e : some 61 = none) => by cases e⟩, fun (q : ¬ 0 ≤ n) => absurd (Int32.not_lt.mp c5) q⟩, fun (q : ¬ n ≤ nI 24) => absurd c4 q⟩, fun (q : sort = -1) => absurd q c3⟩, fun (c2 : gs_in sort (-1) (nI 1) = 0) => absurd c2 hs⟩)⟩)
  cases e
  refine hC _ _ _ _ _ (c_start_61 (fun J h1 h2 h3 h4 => hk J h1 (gh.set (j := 3) hg h1 h2 h3 (fun i hi => ?_) (fun i hi => ?_))))
  · rw [gs_tp_at, if_pos (by omega)]; exact h4 i hi
  · rw [gs_tp_at, if_neg (by omega)]
theorem sheet0_61 {sort n : Int32} (c3 : sort = -1) (hs : ¬ gs_in sort (-1) (nI 1) = 0) (hg : gh S Z R I) (hk : ∀ J, (∀ q, q ≠ 61 → q ≠ 62 → J q = I q) → gh (upd S 3 (-1)) (upd Z 3 0) (gs_tp R (24 * 3) (fun _ => 0) 24) J → K (some (.int 0)) J (sx_run rw m ln)) : sx_C 87 (d + 4) [.ref 15, .int (nI 3), .int sort, .int n] I (sx_run rw m ln) K := by
  have hsh : ¬ gs_in (nI 3) 0 (nI 3) = 0 := gs_in_c (by omega) (by omega)
  refine sx_enter (by decide +kernel) (Nat.le_of_ble_eq_true rfl) (sx_go m87 60 rfl (fun VV CC hV hC => ?_))
  refine hC _ _ _ _ _ (c_isSheet1 ⟨fun (c1 : gs_in (nI 3) 0 (nI 3) = 0) => absurd c1 hsh, fun _ => hC _ _ _ _ _ (c_isWithin ⟨fun _ => ⟨fun (q : ¬ sort = -1) => absurd c3 q, fun _ => ⟨3, ⟨rfl, by omega⟩, fun b (e : some 61 = some b) => ?_, fun (e : some 61 = none) => by cases e⟩⟩, fun (c2 : gs_in sort (-1) (nI 1) = 0) => absurd c2 hs⟩)⟩)
  cases e
  refine hC _ _ _ _ _ (c_start_61 (fun J h1 h2 h3 h4 => hk J h1 (gh.set (j := 3) hg h1 h2 h3 (fun i hi => ?_) (fun i hi => ?_))))
  · rw [gs_tp_at, if_pos (by omega)]; exact h4 i hi
  · rw [gs_tp_at, if_neg (by omega)]
theorem c_isNum_55 {i : Nat} {x : Int32} (hx : x = nI i) (hi : i < 24) (h0 : I 56 i = -1000000005 → K (some (.int (nI 0))) I (sx_run rw m ln)) (h1 : ¬ I 56 i = -1000000005 → K (some (.int (nI 1))) I (sx_run rw m ln)) : sx_C 54 (d + 1) [.ref 55, .int x] I (sx_run rw m ln) K := by
  refine sx_enter (by decide +kernel) (Nat.le_of_ble_eq_true rfl) (sx_go m54 60 rfl (fun VV CC hV hC => ?_))
  exact ⟨i, ⟨hx, hi⟩, fun (c1 : I 56 i = -1000000005) => ⟨Or.inl rfl, h0 c1⟩, fun (c1 : ¬ I 56 i = -1000000005) => ⟨Or.inr rfl, h1 c1⟩⟩
theorem c_isNum_57 {i : Nat} {x : Int32} (hx : x = nI i) (hi : i < 24) (h0 : I 58 i = -1000000005 → K (some (.int (nI 0))) I (sx_run rw m ln)) (h1 : ¬ I 58 i = -1000000005 → K (some (.int (nI 1))) I (sx_run rw m ln)) : sx_C 54 (d + 1) [.ref 57, .int x] I (sx_run rw m ln) K := by
  refine sx_enter (by decide +kernel) (Nat.le_of_ble_eq_true rfl) (sx_go m54 60 rfl (fun VV CC hV hC => ?_))
  exact ⟨i, ⟨hx, hi⟩, fun (c1 : I 58 i = -1000000005) => ⟨Or.inl rfl, h0 c1⟩, fun (c1 : ¬ I 58 i = -1000000005) => ⟨Or.inr rfl, h1 c1⟩⟩
theorem c_isNum_59 {i : Nat} {x : Int32} (hx : x = nI i) (hi : i < 24) (h0 : I 60 i = -1000000005 → K (some (.int (nI 0))) I (sx_run rw m ln)) (h1 : ¬ I 60 i = -1000000005 → K (some (.int (nI 1))) I (sx_run rw m ln)) : sx_C 54 (d + 1) [.ref 59, .int x] I (sx_run rw m ln) K := by
  refine sx_enter (by decide +kernel) (Nat.le_of_ble_eq_true rfl) (sx_go m54 60 rfl (fun VV CC hV hC => ?_))
  exact ⟨i, ⟨hx, hi⟩, fun (c1 : I 60 i = -1000000005) => ⟨Or.inl rfl, h0 c1⟩, fun (c1 : ¬ I 60 i = -1000000005) => ⟨Or.inr rfl, h1 c1⟩⟩
theorem c_isNum_61 {i : Nat} {x : Int32} (hx : x = nI i) (hi : i < 24) (h0 : I 62 i = -1000000005 → K (some (.int (nI 0))) I (sx_run rw m ln)) (h1 : ¬ I 62 i = -1000000005 → K (some (.int (nI 1))) I (sx_run rw m ln)) : sx_C 54 (d + 1) [.ref 61, .int x] I (sx_run rw m ln) K := by
  refine sx_enter (by decide +kernel) (Nat.le_of_ble_eq_true rfl) (sx_go m54 60 rfl (fun VV CC hV hC => ?_))
  exact ⟨i, ⟨hx, hi⟩, fun (c1 : I 62 i = -1000000005) => ⟨Or.inl rfl, h0 c1⟩, fun (c1 : ¬ I 62 i = -1000000005) => ⟨Or.inr rfl, h1 c1⟩⟩
theorem c_isNum_64 {i : Nat} {x : Int32} (hx : x = nI i) (hi : i < 24) (h0 : I 65 i = -1000000005 → K (some (.int (nI 0))) I (sx_run rw m ln)) (h1 : ¬ I 65 i = -1000000005 → K (some (.int (nI 1))) I (sx_run rw m ln)) : sx_C 54 (d + 1) [.ref 64, .int x] I (sx_run rw m ln) K := by
  refine sx_enter (by decide +kernel) (Nat.le_of_ble_eq_true rfl) (sx_go m54 60 rfl (fun VV CC hV hC => ?_))
  exact ⟨i, ⟨hx, hi⟩, fun (c1 : I 65 i = -1000000005) => ⟨Or.inl rfl, h0 c1⟩, fun (c1 : ¬ I 65 i = -1000000005) => ⟨Or.inr rfl, h1 c1⟩⟩
theorem c_isNum_67 {i : Nat} {x : Int32} (hx : x = nI i) (hi : i < 24) (h0 : I 68 i = -1000000005 → K (some (.int (nI 0))) I (sx_run rw m ln)) (h1 : ¬ I 68 i = -1000000005 → K (some (.int (nI 1))) I (sx_run rw m ln)) : sx_C 54 (d + 1) [.ref 67, .int x] I (sx_run rw m ln) K := by
  refine sx_enter (by decide +kernel) (Nat.le_of_ble_eq_true rfl) (sx_go m54 60 rfl (fun VV CC hV hC => ?_))
  exact ⟨i, ⟨hx, hi⟩, fun (c1 : I 68 i = -1000000005) => ⟨Or.inl rfl, h0 c1⟩, fun (c1 : ¬ I 68 i = -1000000005) => ⟨Or.inr rfl, h1 c1⟩⟩
theorem c_isNum_70 {i : Nat} {x : Int32} (hx : x = nI i) (hi : i < 24) (h0 : I 71 i = -1000000005 → K (some (.int (nI 0))) I (sx_run rw m ln)) (h1 : ¬ I 71 i = -1000000005 → K (some (.int (nI 1))) I (sx_run rw m ln)) : sx_C 54 (d + 1) [.ref 70, .int x] I (sx_run rw m ln) K := by
  refine sx_enter (by decide +kernel) (Nat.le_of_ble_eq_true rfl) (sx_go m54 60 rfl (fun VV CC hV hC => ?_))
  exact ⟨i, ⟨hx, hi⟩, fun (c1 : I 71 i = -1000000005) => ⟨Or.inl rfl, h0 c1⟩, fun (c1 : ¬ I 71 i = -1000000005) => ⟨Or.inr rfl, h1 c1⟩⟩
theorem c_isNum_73 {i : Nat} {x : Int32} (hx : x = nI i) (hi : i < 24) (h0 : I 74 i = -1000000005 → K (some (.int (nI 0))) I (sx_run rw m ln)) (h1 : ¬ I 74 i = -1000000005 → K (some (.int (nI 1))) I (sx_run rw m ln)) : sx_C 54 (d + 1) [.ref 73, .int x] I (sx_run rw m ln) K := by
  refine sx_enter (by decide +kernel) (Nat.le_of_ble_eq_true rfl) (sx_go m54 60 rfl (fun VV CC hV hC => ?_))
  exact ⟨i, ⟨hx, hi⟩, fun (c1 : I 74 i = -1000000005) => ⟨Or.inl rfl, h0 c1⟩, fun (c1 : ¬ I 74 i = -1000000005) => ⟨Or.inr rfl, h1 c1⟩⟩
theorem c_isNum_76 {i : Nat} {x : Int32} (hx : x = nI i) (hi : i < 24) (h0 : I 77 i = -1000000005 → K (some (.int (nI 0))) I (sx_run rw m ln)) (h1 : ¬ I 77 i = -1000000005 → K (some (.int (nI 1))) I (sx_run rw m ln)) : sx_C 54 (d + 1) [.ref 76, .int x] I (sx_run rw m ln) K := by
  refine sx_enter (by decide +kernel) (Nat.le_of_ble_eq_true rfl) (sx_go m54 60 rfl (fun VV CC hV hC => ?_))
  exact ⟨i, ⟨hx, hi⟩, fun (c1 : I 77 i = -1000000005) => ⟨Or.inl rfl, h0 c1⟩, fun (c1 : ¬ I 77 i = -1000000005) => ⟨Or.inr rfl, h1 c1⟩⟩
end
