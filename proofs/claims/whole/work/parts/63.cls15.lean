/-! ===== the class: places copied; whose doubts a sheet is like ===== -/
theorem gh.cpy {S Z R : Nat → Int32} {I : sx_I} (hg : gh S Z R I) {a b p q c : Nat} (ha : a < 4) (hb : b < 4) (hp : p + c ≤ 24) (hq : q + c ≤ 24) : gh S Z (va_cpy R R (24 * a + p) (24 * b + q) c) (sx_up I (56 + 2 * b) (va_cpy (I (56 + 2 * a)) (I (56 + 2 * b)) p q c)) := by
  intro k hk
  by_cases e : k = b
  · subst e
    refine ⟨by rw [sx_up_ne (by omega)]; exact (hg _ hk).1, by rw [sx_up_ne (by omega)]; exact (hg _ hk).2.1, fun i hi => ?_⟩
    rw [sx_up_same]
    by_cases h : q ≤ i ∧ i < q + c
    · rw [pk_cpy_in h.1 h.2, pk_cpy_in (by omega) (by omega), (hg a ha).2.2 _ (by omega)]
      congr 1; omega
    · rw [pk_cpy_out (by omega), pk_cpy_out (by omega)]
      exact (hg _ hk).2.2 i hi
  · rw [sx_up_ne (by omega), sx_up_ne (by omega)]
    obtain ⟨q1, q2, q3⟩ := hg k hk
    exact ⟨q1, q2, fun i hi => by rw [pk_cpy_out (by omega)]; exact q3 i hi⟩
theorem gs_abs_off2 {x y : Int32} (hx : ∃ c, x = nI c ∧ c ≤ 99) (hy : -99999 ≤ y ∧ y ≤ nI 99999) : gs_abs (x - y) = gs_off y x := by
  obtain ⟨c, rfl, hc⟩ := hx
  have h1 := hy.1
  have h2 := hy.2
  rw [Int32.le_iff_toInt_le] at h1 h2
  rw [nI_toInt (by omega)] at h2
  have e1 : (-99999 : Int32).toInt = -99999 := by decide +kernel
  rw [e1] at h1
  have hs : (nI c - y).toInt = (c : Int) - y.toInt := by
    rw [Int32.toInt_sub, nI_toInt (by omega), Int.bmod_def]
    split <;> omega
  have e0 : (0 : Int32).toInt = 0 := by decide +kernel
  have hlt : nI c - y < 0 ↔ (c : Int) < y.toInt := by
    rw [Int32.lt_iff_toInt_lt, hs, e0]; omega
  have hyl : y < nI c ↔ y.toInt < (c : Int) := by
    rw [Int32.lt_iff_toInt_lt, nI_toInt (by omega)]
  unfold gs_abs gs_off
  by_cases h : (c : Int) < y.toInt
  · rw [if_pos (hlt.mpr h), if_neg (fun q => by have := hyl.mp q; omega), Int32.neg_sub]
  · rw [if_neg (fun q => h (hlt.mp q))]
    by_cases h3 : y.toInt < (c : Int)
    · rw [if_pos (hyl.mpr h3)]
    · rw [if_neg (fun q => h3 (hyl.mp q))]
      have : nI c = y := by
        apply Int32.toInt_inj.mp
        rw [nI_toInt (by omega)]; omega
      rw [this]
theorem gs_least_ok (f : Nat → Int32) : ∀ k, 1 ≤ k → k ≤ 10 → ∃ b, b < k ∧ gs_least f k = (nI b, f b)
  | 0, h, _ => absurd h (by omega)
  | k + 1, _, hk => by
    by_cases c : (gs_least f k).1 < 0 ∨ f k < (gs_least f k).2
    · exact ⟨k, by omega, if_pos c⟩
    · rcases Nat.eq_zero_or_pos k with rfl | h
      · exact absurd (Or.inl (show (-1 : Int32) < 0 by decide +kernel)) c
      · obtain ⟨b, h1, h2⟩ := gs_least_ok f k h (by omega)
        exact ⟨b, by omega, (if_neg c).trans h2⟩
theorem gs_least_1 (f : Nat → Int32) : (gs_least f 1).1 = nI 0 := by
  obtain ⟨b, hb, e⟩ := gs_least_ok f 1 (by omega) (by omega)
  have : b = 0 := by omega
  rw [e, this]
theorem gs_least_0 (f : Nat → Int32) : (gs_least f 0).1 < 0 := by show (-1 : Int32) < 0; decide +kernel
section
variable {d m : Nat} {I : sx_I} {rw : Nat → Nat → Option Nat} {ln : Nat → Nat} {K : sx_K} {s S Z R : Nat → Int32}
theorem c1_copy_55_55 {p q c : Int32} (hg : gh S Z R I) (ho : gh_ok S Z R) (hk : ∀ J, (∀ x, (x < 55 ∨ 62 < x) → J x = I x) → gh S Z (gs_copy S Z R (nI 0) p (nI 0) q c).1 J → K (some (.int (gs_copy S Z R (nI 0) p (nI 0) q c).2)) J (sx_run rw m ln)) : sx_C 91 (d + 3) [.ref 15, .int (nI 0), .int p, .int (nI 0), .int q, .int c] I (sx_run rw m ln) K := by
  have hsh : ¬ gs_in (nI 0) 0 (nI 3) = 0 := gs_in_c (by omega) (by omega)
  have hsh2 : ¬ gs_in (nI 0) 0 (nI 3) = 0 := gs_in_c (by omega) (by omega)
  have g0 : I 55 0 = S 0 := (hg 0 (by omega)).1
  have g1 : I 55 1 = Z 0 := (hg 0 (by omega)).2.1
  have k0 : I 55 0 = S 0 := (hg 0 (by omega)).1
  have k1 : I 55 1 = Z 0 := (hg 0 (by omega)).2.1
  obtain ⟨-, ⟨z, oz, oz24⟩, -⟩ := ho 0 (by omega)
  obtain ⟨-, ⟨y, oy, oy24⟩, -⟩ := ho 0 (by omega)
  have hneg := gh_S ho (j := 0) (by omega)
  have hneg2 := gh_S ho (j := 0) (by omega)
  generalize e : gs_copy S Z R (nI 0) p (nI 0) q c = g at hk
  unfold gs_copy at e
  rw [if_neg (fun h => h.elim hsh hsh2), show (nI 0).toNatClampNeg = 0 from nI_clamp (by omega)] at e
  try rw [show (nI 0).toNatClampNeg = 0 from nI_clamp (by omega)] at e
  have bad : ∀ x, (R, x) = g → K (some (.int x)) I (sx_run rw m ln) := by
    intro x h; subst h; exact hk I (fun _ _ => rfl) hg
  have b2 : (S 0 = -1 ∨ S 0 = -1) → K (some (.int (-1000000011))) I (sx_run rw m ln) := fun h => bad _ (by rw [if_pos (h.elim (fun q => Or.inl (hneg.mpr q)) (fun q => Or.inr (hneg2.mpr q)))] at e; exact e)
  refine sx_enter (by decide +kernel) (Nat.le_of_ble_eq_true rfl) (sx_go m91 100 rfl (fun VV CC hV hC => ?_))
  refine hC _ _ _ _ _ (c_isSheet1 ⟨fun (c1 : gs_in (nI 0) 0 (nI 3) = 0) => absurd c1 hsh, fun _ => hC _ _ _ _ _ (c_isSheet1 ⟨fun _ => ⟨0, ⟨rfl, by omega⟩, fun b (eb : some 55 = some b) => ?_, fun (eb : some 55 = none) => by cases eb⟩, fun (c1 : gs_in (nI 0) 0 (nI 3) = 0) => absurd c1 hsh2⟩)⟩)
  cases eb
  refine ⟨0, ⟨rfl, by omega⟩, fun b (eb : some 55 = some b) => ?_, fun (eb : some 55 = none) => by cases eb⟩
  cases eb
  refine ⟨fun (c2 : I 55 0 = -1) => b2 (Or.inl (g0.symm.trans c2)), fun (c2 : ¬ I 55 0 = -1) => ⟨fun (c3 : ¬ I 55 0 = -1) => ⟨fun (c4 : I 55 0 = I 55 0) => ?_, fun (c4 : ¬ I 55 0 = I 55 0) => bad _ ?_⟩, fun (c3 : I 55 0 = -1) => b2 (Or.inr (k0.symm.trans c3))⟩⟩
  · have c2 : ¬ S 0 = -1 := fun h => c2 (g0.trans h)
    have c3 : ¬ S 0 = -1 := fun h => c3 (k0.trans h)
    have c4 : S 0 = S 0 := g0.symm.trans (c4.trans k0)
    rw [if_neg (fun h => h.elim (fun q => c2 (hneg.mp q)) (fun q => c3 (hneg2.mp q))), if_neg (fun h => h c4)] at e
    have b3 : gs_cpBad p q c (Z 0) (Z 0) → K (some (.int (-1000000013))) I (sx_run rw m ln) := fun h => bad _ (by rw [if_pos h] at e; exact e)
    refine hC _ _ _ _ _ (c_hasPl_55 (g1.trans oz) oz24 (fun h => ⟨fun _ => b3 ?_, fun (q : ¬ nI 0 = 0) => absurd rfl q⟩) (fun h => ⟨fun (q : nI 1 = 0) => absurd q (by decide +kernel), fun _ => hC _ _ _ _ _ (c_hasPl_55 (k1.trans oy) oy24 (fun h2 => ⟨fun (q : ¬ nI 0 = 0) => absurd rfl q, fun _ => b3 ?_⟩) (fun h2 => ⟨fun _ => ?_, fun (q : nI 1 = 0) => absurd q (by decide +kernel)⟩))⟩))
    · rcases Decidable.not_not.mp h with h | h | h
      · exact Or.inl h
      · exact Or.inr (Or.inr (Or.inl h))
      · exact Or.inr (Or.inr (Or.inr (Or.inl (by rw [oz]; exact h))))
    · rcases Decidable.not_not.mp h2 with h | h | h
      · exact Or.inr (Or.inl h)
      · exact Or.inr (Or.inr (Or.inl h))
      · exact Or.inr (Or.inr (Or.inr (Or.inr (by rw [oy]; exact h))))
    · have nb : ¬ gs_cpBad p q c (Z 0) (Z 0) := by
        rintro (x | x | x | x | x)
        · exact h (Or.inl x)
        · exact h2 (Or.inl x)
        · exact h (Or.inr (Or.inl x))
        · exact h (Or.inr (Or.inr (by rw [← oz]; exact x)))
        · exact h2 (Or.inr (Or.inr (by rw [← oy]; exact x)))
      rw [if_neg nb] at e
      obtain ⟨p, rfl, hp⟩ := gs_nat (fun x => h (Or.inl x))
      obtain ⟨q, rfl, hq⟩ := gs_nat (fun x => h2 (Or.inl x))
      obtain ⟨c, rfl, hc⟩ := gs_nat (fun x => h (Or.inr (Or.inl x)))
      have hpz : p + c ≤ z := by
        refine Nat.le_of_not_lt (fun x => h (Or.inr (Or.inr ?_)))
        rw [nI_clamp (by omega), nI_clamp hp, nI_clamp hc]; exact x
      have hqy : q + c ≤ y := by
        refine Nat.le_of_not_lt (fun x => h2 (Or.inr (Or.inr ?_)))
        rw [nI_clamp (by omega), nI_clamp hq, nI_clamp hc]; exact x
      rw [nI_clamp hp, nI_clamp hq, nI_clamp hc] at e
      subst e
      refine ⟨c, p, q, ⟨rfl, rfl, rfl, by omega, by omega⟩, Nat.le_of_ble_eq_true rfl, ?_⟩
      exact hk _ (fun x hx => sx_up_ne (by omega)) (hg.cpy (a := 0) (b := 0) (by omega) (by omega) (by omega) (by omega))
  · have c2 : ¬ S 0 = -1 := fun h => c2 (g0.trans h)
    have c3 : ¬ S 0 = -1 := fun h => c3 (k0.trans h)
    have c4 : ¬ S 0 = S 0 := fun h => c4 (g0.trans (h.trans k0.symm))
    rw [if_neg (fun h => h.elim (fun q => c2 (hneg.mp q)) (fun q => c3 (hneg2.mp q))), if_pos c4] at e
    exact e
theorem c1_copy_55_57 {p q c : Int32} (hg : gh S Z R I) (ho : gh_ok S Z R) (hk : ∀ J, (∀ x, (x < 55 ∨ 62 < x) → J x = I x) → gh S Z (gs_copy S Z R (nI 0) p (nI 1) q c).1 J → K (some (.int (gs_copy S Z R (nI 0) p (nI 1) q c).2)) J (sx_run rw m ln)) : sx_C 91 (d + 3) [.ref 15, .int (nI 0), .int p, .int (nI 1), .int q, .int c] I (sx_run rw m ln) K := by
  have hsh : ¬ gs_in (nI 0) 0 (nI 3) = 0 := gs_in_c (by omega) (by omega)
  have hsh2 : ¬ gs_in (nI 1) 0 (nI 3) = 0 := gs_in_c (by omega) (by omega)
  have g0 : I 55 0 = S 0 := (hg 0 (by omega)).1
  have g1 : I 55 1 = Z 0 := (hg 0 (by omega)).2.1
  have k0 : I 57 0 = S 1 := (hg 1 (by omega)).1
  have k1 : I 57 1 = Z 1 := (hg 1 (by omega)).2.1
  obtain ⟨-, ⟨z, oz, oz24⟩, -⟩ := ho 0 (by omega)
  obtain ⟨-, ⟨y, oy, oy24⟩, -⟩ := ho 1 (by omega)
  have hneg := gh_S ho (j := 0) (by omega)
  have hneg2 := gh_S ho (j := 1) (by omega)
  generalize e : gs_copy S Z R (nI 0) p (nI 1) q c = g at hk
  unfold gs_copy at e
  rw [if_neg (fun h => h.elim hsh hsh2), show (nI 0).toNatClampNeg = 0 from nI_clamp (by omega)] at e
  try rw [show (nI 1).toNatClampNeg = 1 from nI_clamp (by omega)] at e
  have bad : ∀ x, (R, x) = g → K (some (.int x)) I (sx_run rw m ln) := by
    intro x h; subst h; exact hk I (fun _ _ => rfl) hg
  have b2 : (S 0 = -1 ∨ S 1 = -1) → K (some (.int (-1000000011))) I (sx_run rw m ln) := fun h => bad _ (by rw [if_pos (h.elim (fun q => Or.inl (hneg.mpr q)) (fun q => Or.inr (hneg2.mpr q)))] at e; exact e)
  refine sx_enter (by decide +kernel) (Nat.le_of_ble_eq_true rfl) (sx_go m91 100 rfl (fun VV CC hV hC => ?_))
  refine hC _ _ _ _ _ (c_isSheet1 ⟨fun (c1 : gs_in (nI 0) 0 (nI 3) = 0) => absurd c1 hsh, fun _ => hC _ _ _ _ _ (c_isSheet1 ⟨fun _ => ⟨0, ⟨rfl, by omega⟩, fun b (eb : some 55 = some b) => ?_, fun (eb : some 55 = none) => by cases eb⟩, fun (c1 : gs_in (nI 1) 0 (nI 3) = 0) => absurd c1 hsh2⟩)⟩)
  cases eb
  refine ⟨1, ⟨rfl, by omega⟩, fun b (eb : some 57 = some b) => ?_, fun (eb : some 57 = none) => by cases eb⟩
  cases eb
  refine ⟨fun (c2 : I 55 0 = -1) => b2 (Or.inl (g0.symm.trans c2)), fun (c2 : ¬ I 55 0 = -1) => ⟨fun (c3 : ¬ I 57 0 = -1) => ⟨fun (c4 : I 55 0 = I 57 0) => ?_, fun (c4 : ¬ I 55 0 = I 57 0) => bad _ ?_⟩, fun (c3 : I 57 0 = -1) => b2 (Or.inr (k0.symm.trans c3))⟩⟩
  · have c2 : ¬ S 0 = -1 := fun h => c2 (g0.trans h)
    have c3 : ¬ S 1 = -1 := fun h => c3 (k0.trans h)
    have c4 : S 0 = S 1 := g0.symm.trans (c4.trans k0)
    rw [if_neg (fun h => h.elim (fun q => c2 (hneg.mp q)) (fun q => c3 (hneg2.mp q))), if_neg (fun h => h c4)] at e
    have b3 : gs_cpBad p q c (Z 0) (Z 1) → K (some (.int (-1000000013))) I (sx_run rw m ln) := fun h => bad _ (by rw [if_pos h] at e; exact e)
    refine hC _ _ _ _ _ (c_hasPl_55 (g1.trans oz) oz24 (fun h => ⟨fun _ => b3 ?_, fun (q : ¬ nI 0 = 0) => absurd rfl q⟩) (fun h => ⟨fun (q : nI 1 = 0) => absurd q (by decide +kernel), fun _ => hC _ _ _ _ _ (c_hasPl_57 (k1.trans oy) oy24 (fun h2 => ⟨fun (q : ¬ nI 0 = 0) => absurd rfl q, fun _ => b3 ?_⟩) (fun h2 => ⟨fun _ => ?_, fun (q : nI 1 = 0) => absurd q (by decide +kernel)⟩))⟩))
    · rcases Decidable.not_not.mp h with h | h | h
      · exact Or.inl h
      · exact Or.inr (Or.inr (Or.inl h))
      · exact Or.inr (Or.inr (Or.inr (Or.inl (by rw [oz]; exact h))))
    · rcases Decidable.not_not.mp h2 with h | h | h
      · exact Or.inr (Or.inl h)
      · exact Or.inr (Or.inr (Or.inl h))
      · exact Or.inr (Or.inr (Or.inr (Or.inr (by rw [oy]; exact h))))
    · have nb : ¬ gs_cpBad p q c (Z 0) (Z 1) := by
        rintro (x | x | x | x | x)
        · exact h (Or.inl x)
        · exact h2 (Or.inl x)
        · exact h (Or.inr (Or.inl x))
        · exact h (Or.inr (Or.inr (by rw [← oz]; exact x)))
        · exact h2 (Or.inr (Or.inr (by rw [← oy]; exact x)))
      rw [if_neg nb] at e
      obtain ⟨p, rfl, hp⟩ := gs_nat (fun x => h (Or.inl x))
      obtain ⟨q, rfl, hq⟩ := gs_nat (fun x => h2 (Or.inl x))
      obtain ⟨c, rfl, hc⟩ := gs_nat (fun x => h (Or.inr (Or.inl x)))
      have hpz : p + c ≤ z := by
        refine Nat.le_of_not_lt (fun x => h (Or.inr (Or.inr ?_)))
        rw [nI_clamp (by omega), nI_clamp hp, nI_clamp hc]; exact x
      have hqy : q + c ≤ y := by
        refine Nat.le_of_not_lt (fun x => h2 (Or.inr (Or.inr ?_)))
        rw [nI_clamp (by omega), nI_clamp hq, nI_clamp hc]; exact x
      rw [nI_clamp hp, nI_clamp hq, nI_clamp hc] at e
      subst e
      refine ⟨c, p, q, ⟨rfl, rfl, rfl, by omega, by omega⟩, Nat.le_of_ble_eq_true rfl, ?_⟩
      exact hk _ (fun x hx => sx_up_ne (by omega)) (hg.cpy (a := 0) (b := 1) (by omega) (by omega) (by omega) (by omega))
  · have c2 : ¬ S 0 = -1 := fun h => c2 (g0.trans h)
    have c3 : ¬ S 1 = -1 := fun h => c3 (k0.trans h)
    have c4 : ¬ S 0 = S 1 := fun h => c4 (g0.trans (h.trans k0.symm))
    rw [if_neg (fun h => h.elim (fun q => c2 (hneg.mp q)) (fun q => c3 (hneg2.mp q))), if_pos c4] at e
    exact e
theorem c1_copy_55_59 {p q c : Int32} (hg : gh S Z R I) (ho : gh_ok S Z R) (hk : ∀ J, (∀ x, (x < 55 ∨ 62 < x) → J x = I x) → gh S Z (gs_copy S Z R (nI 0) p (nI 2) q c).1 J → K (some (.int (gs_copy S Z R (nI 0) p (nI 2) q c).2)) J (sx_run rw m ln)) : sx_C 91 (d + 3) [.ref 15, .int (nI 0), .int p, .int (nI 2), .int q, .int c] I (sx_run rw m ln) K := by
  have hsh : ¬ gs_in (nI 0) 0 (nI 3) = 0 := gs_in_c (by omega) (by omega)
  have hsh2 : ¬ gs_in (nI 2) 0 (nI 3) = 0 := gs_in_c (by omega) (by omega)
  have g0 : I 55 0 = S 0 := (hg 0 (by omega)).1
  have g1 : I 55 1 = Z 0 := (hg 0 (by omega)).2.1
  have k0 : I 59 0 = S 2 := (hg 2 (by omega)).1
  have k1 : I 59 1 = Z 2 := (hg 2 (by omega)).2.1
  obtain ⟨-, ⟨z, oz, oz24⟩, -⟩ := ho 0 (by omega)
  obtain ⟨-, ⟨y, oy, oy24⟩, -⟩ := ho 2 (by omega)
  have hneg := gh_S ho (j := 0) (by omega)
  have hneg2 := gh_S ho (j := 2) (by omega)
  generalize e : gs_copy S Z R (nI 0) p (nI 2) q c = g at hk
  unfold gs_copy at e
  rw [if_neg (fun h => h.elim hsh hsh2), show (nI 0).toNatClampNeg = 0 from nI_clamp (by omega)] at e
  try rw [show (nI 2).toNatClampNeg = 2 from nI_clamp (by omega)] at e
  have bad : ∀ x, (R, x) = g → K (some (.int x)) I (sx_run rw m ln) := by
    intro x h; subst h; exact hk I (fun _ _ => rfl) hg
  have b2 : (S 0 = -1 ∨ S 2 = -1) → K (some (.int (-1000000011))) I (sx_run rw m ln) := fun h => bad _ (by rw [if_pos (h.elim (fun q => Or.inl (hneg.mpr q)) (fun q => Or.inr (hneg2.mpr q)))] at e; exact e)
  refine sx_enter (by decide +kernel) (Nat.le_of_ble_eq_true rfl) (sx_go m91 100 rfl (fun VV CC hV hC => ?_))
  refine hC _ _ _ _ _ (c_isSheet1 ⟨fun (c1 : gs_in (nI 0) 0 (nI 3) = 0) => absurd c1 hsh, fun _ => hC _ _ _ _ _ (c_isSheet1 ⟨fun _ => ⟨0, ⟨rfl, by omega⟩, fun b (eb : some 55 = some b) => ?_, fun (eb : some 55 = none) => by cases eb⟩, fun (c1 : gs_in (nI 2) 0 (nI 3) = 0) => absurd c1 hsh2⟩)⟩)
  cases eb
  refine ⟨2, ⟨rfl, by omega⟩, fun b (eb : some 59 = some b) => ?_, fun (eb : some 59 = none) => by cases eb⟩
  cases eb
  refine ⟨fun (c2 : I 55 0 = -1) => b2 (Or.inl (g0.symm.trans c2)), fun (c2 : ¬ I 55 0 = -1) => ⟨fun (c3 : ¬ I 59 0 = -1) => ⟨fun (c4 : I 55 0 = I 59 0) => ?_, fun (c4 : ¬ I 55 0 = I 59 0) => bad _ ?_⟩, fun (c3 : I 59 0 = -1) => b2 (Or.inr (k0.symm.trans c3))⟩⟩
  · have c2 : ¬ S 0 = -1 := fun h => c2 (g0.trans h)
    have c3 : ¬ S 2 = -1 := fun h => c3 (k0.trans h)
    have c4 : S 0 = S 2 := g0.symm.trans (c4.trans k0)
    rw [if_neg (fun h => h.elim (fun q => c2 (hneg.mp q)) (fun q => c3 (hneg2.mp q))), if_neg (fun h => h c4)] at e
    have b3 : gs_cpBad p q c (Z 0) (Z 2) → K (some (.int (-1000000013))) I (sx_run rw m ln) := fun h => bad _ (by rw [if_pos h] at e; exact e)
    refine hC _ _ _ _ _ (c_hasPl_55 (g1.trans oz) oz24 (fun h => ⟨fun _ => b3 ?_, fun (q : ¬ nI 0 = 0) => absurd rfl q⟩) (fun h => ⟨fun (q : nI 1 = 0) => absurd q (by decide +kernel), fun _ => hC _ _ _ _ _ (c_hasPl_59 (k1.trans oy) oy24 (fun h2 => ⟨fun (q : ¬ nI 0 = 0) => absurd rfl q, fun _ => b3 ?_⟩) (fun h2 => ⟨fun _ => ?_, fun (q : nI 1 = 0) => absurd q (by decide +kernel)⟩))⟩))
    · rcases Decidable.not_not.mp h with h | h | h
      · exact Or.inl h
      · exact Or.inr (Or.inr (Or.inl h))
      · exact Or.inr (Or.inr (Or.inr (Or.inl (by rw [oz]; exact h))))
    · rcases Decidable.not_not.mp h2 with h | h | h
      · exact Or.inr (Or.inl h)
      · exact Or.inr (Or.inr (Or.inl h))
      · exact Or.inr (Or.inr (Or.inr (Or.inr (by rw [oy]; exact h))))
    · have nb : ¬ gs_cpBad p q c (Z 0) (Z 2) := by
        rintro (x | x | x | x | x)
        · exact h (Or.inl x)
        · exact h2 (Or.inl x)
        · exact h (Or.inr (Or.inl x))
        · exact h (Or.inr (Or.inr (by rw [← oz]; exact x)))
        · exact h2 (Or.inr (Or.inr (by rw [← oy]; exact x)))
      rw [if_neg nb] at e
      obtain ⟨p, rfl, hp⟩ := gs_nat (fun x => h (Or.inl x))
      obtain ⟨q, rfl, hq⟩ := gs_nat (fun x => h2 (Or.inl x))
      obtain ⟨c, rfl, hc⟩ := gs_nat (fun x => h (Or.inr (Or.inl x)))
      have hpz : p + c ≤ z := by
        refine Nat.le_of_not_lt (fun x => h (Or.inr (Or.inr ?_)))
        rw [nI_clamp (by omega), nI_clamp hp, nI_clamp hc]; exact x
      have hqy : q + c ≤ y := by
        refine Nat.le_of_not_lt (fun x => h2 (Or.inr (Or.inr ?_)))
        rw [nI_clamp (by omega), nI_clamp hq, nI_clamp hc]; exact x
      rw [nI_clamp hp, nI_clamp hq, nI_clamp hc] at e
      subst e
      refine ⟨c, p, q, ⟨rfl, rfl, rfl, by omega, by omega⟩, Nat.le_of_ble_eq_true rfl, ?_⟩
      exact hk _ (fun x hx => sx_up_ne (by omega)) (hg.cpy (a := 0) (b := 2) (by omega) (by omega) (by omega) (by omega))
  · have c2 : ¬ S 0 = -1 := fun h => c2 (g0.trans h)
    have c3 : ¬ S 2 = -1 := fun h => c3 (k0.trans h)
    have c4 : ¬ S 0 = S 2 := fun h => c4 (g0.trans (h.trans k0.symm))
    rw [if_neg (fun h => h.elim (fun q => c2 (hneg.mp q)) (fun q => c3 (hneg2.mp q))), if_pos c4] at e
    exact e
theorem c1_copy_55_61 {p q c : Int32} (hg : gh S Z R I) (ho : gh_ok S Z R) (hk : ∀ J, (∀ x, (x < 55 ∨ 62 < x) → J x = I x) → gh S Z (gs_copy S Z R (nI 0) p (nI 3) q c).1 J → K (some (.int (gs_copy S Z R (nI 0) p (nI 3) q c).2)) J (sx_run rw m ln)) : sx_C 91 (d + 3) [.ref 15, .int (nI 0), .int p, .int (nI 3), .int q, .int c] I (sx_run rw m ln) K := by
  have hsh : ¬ gs_in (nI 0) 0 (nI 3) = 0 := gs_in_c (by omega) (by omega)
  have hsh2 : ¬ gs_in (nI 3) 0 (nI 3) = 0 := gs_in_c (by omega) (by omega)
  have g0 : I 55 0 = S 0 := (hg 0 (by omega)).1
  have g1 : I 55 1 = Z 0 := (hg 0 (by omega)).2.1
  have k0 : I 61 0 = S 3 := (hg 3 (by omega)).1
  have k1 : I 61 1 = Z 3 := (hg 3 (by omega)).2.1
  obtain ⟨-, ⟨z, oz, oz24⟩, -⟩ := ho 0 (by omega)
  obtain ⟨-, ⟨y, oy, oy24⟩, -⟩ := ho 3 (by omega)
  have hneg := gh_S ho (j := 0) (by omega)
  have hneg2 := gh_S ho (j := 3) (by omega)
  generalize e : gs_copy S Z R (nI 0) p (nI 3) q c = g at hk
  unfold gs_copy at e
  rw [if_neg (fun h => h.elim hsh hsh2), show (nI 0).toNatClampNeg = 0 from nI_clamp (by omega)] at e
  try rw [show (nI 3).toNatClampNeg = 3 from nI_clamp (by omega)] at e
  have bad : ∀ x, (R, x) = g → K (some (.int x)) I (sx_run rw m ln) := by
    intro x h; subst h; exact hk I (fun _ _ => rfl) hg
  have b2 : (S 0 = -1 ∨ S 3 = -1) → K (some (.int (-1000000011))) I (sx_run rw m ln) := fun h => bad _ (by rw [if_pos (h.elim (fun q => Or.inl (hneg.mpr q)) (fun q => Or.inr (hneg2.mpr q)))] at e; exact e)
  refine sx_enter (by decide +kernel) (Nat.le_of_ble_eq_true rfl) (sx_go m91 100 rfl (fun VV CC hV hC => ?_))
  refine hC _ _ _ _ _ (c_isSheet1 ⟨fun (c1 : gs_in (nI 0) 0 (nI 3) = 0) => absurd c1 hsh, fun _ => hC _ _ _ _ _ (c_isSheet1 ⟨fun _ => ⟨0, ⟨rfl, by omega⟩, fun b (eb : some 55 = some b) => ?_, fun (eb : some 55 = none) => by cases eb⟩, fun (c1 : gs_in (nI 3) 0 (nI 3) = 0) => absurd c1 hsh2⟩)⟩)
  cases eb
  refine ⟨3, ⟨rfl, by omega⟩, fun b (eb : some 61 = some b) => ?_, fun (eb : some 61 = none) => by cases eb⟩
  cases eb
  refine ⟨fun (c2 : I 55 0 = -1) => b2 (Or.inl (g0.symm.trans c2)), fun (c2 : ¬ I 55 0 = -1) => ⟨fun (c3 : ¬ I 61 0 = -1) => ⟨fun (c4 : I 55 0 = I 61 0) => ?_, fun (c4 : ¬ I 55 0 = I 61 0) => bad _ ?_⟩, fun (c3 : I 61 0 = -1) => b2 (Or.inr (k0.symm.trans c3))⟩⟩
  · have c2 : ¬ S 0 = -1 := fun h => c2 (g0.trans h)
    have c3 : ¬ S 3 = -1 := fun h => c3 (k0.trans h)
    have c4 : S 0 = S 3 := g0.symm.trans (c4.trans k0)
    rw [if_neg (fun h => h.elim (fun q => c2 (hneg.mp q)) (fun q => c3 (hneg2.mp q))), if_neg (fun h => h c4)] at e
    have b3 : gs_cpBad p q c (Z 0) (Z 3) → K (some (.int (-1000000013))) I (sx_run rw m ln) := fun h => bad _ (by rw [if_pos h] at e; exact e)
    refine hC _ _ _ _ _ (c_hasPl_55 (g1.trans oz) oz24 (fun h => ⟨fun _ => b3 ?_, fun (q : ¬ nI 0 = 0) => absurd rfl q⟩) (fun h => ⟨fun (q : nI 1 = 0) => absurd q (by decide +kernel), fun _ => hC _ _ _ _ _ (c_hasPl_61 (k1.trans oy) oy24 (fun h2 => ⟨fun (q : ¬ nI 0 = 0) => absurd rfl q, fun _ => b3 ?_⟩) (fun h2 => ⟨fun _ => ?_, fun (q : nI 1 = 0) => absurd q (by decide +kernel)⟩))⟩))
    · rcases Decidable.not_not.mp h with h | h | h
      · exact Or.inl h
      · exact Or.inr (Or.inr (Or.inl h))
      · exact Or.inr (Or.inr (Or.inr (Or.inl (by rw [oz]; exact h))))
    · rcases Decidable.not_not.mp h2 with h | h | h
      · exact Or.inr (Or.inl h)
      · exact Or.inr (Or.inr (Or.inl h))
      · exact Or.inr (Or.inr (Or.inr (Or.inr (by rw [oy]; exact h))))
    · have nb : ¬ gs_cpBad p q c (Z 0) (Z 3) := by
        rintro (x | x | x | x | x)
        · exact h (Or.inl x)
        · exact h2 (Or.inl x)
        · exact h (Or.inr (Or.inl x))
        · exact h (Or.inr (Or.inr (by rw [← oz]; exact x)))
        · exact h2 (Or.inr (Or.inr (by rw [← oy]; exact x)))
      rw [if_neg nb] at e
      obtain ⟨p, rfl, hp⟩ := gs_nat (fun x => h (Or.inl x))
      obtain ⟨q, rfl, hq⟩ := gs_nat (fun x => h2 (Or.inl x))
      obtain ⟨c, rfl, hc⟩ := gs_nat (fun x => h (Or.inr (Or.inl x)))
      have hpz : p + c ≤ z := by
        refine Nat.le_of_not_lt (fun x => h (Or.inr (Or.inr ?_)))
        rw [nI_clamp (by omega), nI_clamp hp, nI_clamp hc]; exact x
      have hqy : q + c ≤ y := by
        refine Nat.le_of_not_lt (fun x => h2 (Or.inr (Or.inr ?_)))
        rw [nI_clamp (by omega), nI_clamp hq, nI_clamp hc]; exact x
      rw [nI_clamp hp, nI_clamp hq, nI_clamp hc] at e
      subst e
      refine ⟨c, p, q, ⟨rfl, rfl, rfl, by omega, by omega⟩, Nat.le_of_ble_eq_true rfl, ?_⟩
      exact hk _ (fun x hx => sx_up_ne (by omega)) (hg.cpy (a := 0) (b := 3) (by omega) (by omega) (by omega) (by omega))
  · have c2 : ¬ S 0 = -1 := fun h => c2 (g0.trans h)
    have c3 : ¬ S 3 = -1 := fun h => c3 (k0.trans h)
    have c4 : ¬ S 0 = S 3 := fun h => c4 (g0.trans (h.trans k0.symm))
    rw [if_neg (fun h => h.elim (fun q => c2 (hneg.mp q)) (fun q => c3 (hneg2.mp q))), if_pos c4] at e
    exact e
theorem c1_copy_57_55 {p q c : Int32} (hg : gh S Z R I) (ho : gh_ok S Z R) (hk : ∀ J, (∀ x, (x < 55 ∨ 62 < x) → J x = I x) → gh S Z (gs_copy S Z R (nI 1) p (nI 0) q c).1 J → K (some (.int (gs_copy S Z R (nI 1) p (nI 0) q c).2)) J (sx_run rw m ln)) : sx_C 91 (d + 3) [.ref 15, .int (nI 1), .int p, .int (nI 0), .int q, .int c] I (sx_run rw m ln) K := by
  have hsh : ¬ gs_in (nI 1) 0 (nI 3) = 0 := gs_in_c (by omega) (by omega)
  have hsh2 : ¬ gs_in (nI 0) 0 (nI 3) = 0 := gs_in_c (by omega) (by omega)
  have g0 : I 57 0 = S 1 := (hg 1 (by omega)).1
  have g1 : I 57 1 = Z 1 := (hg 1 (by omega)).2.1
  have k0 : I 55 0 = S 0 := (hg 0 (by omega)).1
  have k1 : I 55 1 = Z 0 := (hg 0 (by omega)).2.1
  obtain ⟨-, ⟨z, oz, oz24⟩, -⟩ := ho 1 (by omega)
  obtain ⟨-, ⟨y, oy, oy24⟩, -⟩ := ho 0 (by omega)
  have hneg := gh_S ho (j := 1) (by omega)
  have hneg2 := gh_S ho (j := 0) (by omega)
  generalize e : gs_copy S Z R (nI 1) p (nI 0) q c = g at hk
  unfold gs_copy at e
  rw [if_neg (fun h => h.elim hsh hsh2), show (nI 1).toNatClampNeg = 1 from nI_clamp (by omega)] at e
  try rw [show (nI 0).toNatClampNeg = 0 from nI_clamp (by omega)] at e
  have bad : ∀ x, (R, x) = g → K (some (.int x)) I (sx_run rw m ln) := by
    intro x h; subst h; exact hk I (fun _ _ => rfl) hg
  have b2 : (S 1 = -1 ∨ S 0 = -1) → K (some (.int (-1000000011))) I (sx_run rw m ln) := fun h => bad _ (by rw [if_pos (h.elim (fun q => Or.inl (hneg.mpr q)) (fun q => Or.inr (hneg2.mpr q)))] at e; exact e)
  refine sx_enter (by decide +kernel) (Nat.le_of_ble_eq_true rfl) (sx_go m91 100 rfl (fun VV CC hV hC => ?_))
  refine hC _ _ _ _ _ (c_isSheet1 ⟨fun (c1 : gs_in (nI 1) 0 (nI 3) = 0) => absurd c1 hsh, fun _ => hC _ _ _ _ _ (c_isSheet1 ⟨fun _ => ⟨1, ⟨rfl, by omega⟩, fun b (eb : some 57 = some b) => ?_, fun (eb : some 57 = none) => by cases eb⟩, fun (c1 : gs_in (nI 0) 0 (nI 3) = 0) => absurd c1 hsh2⟩)⟩)
  cases eb
  refine ⟨0, ⟨rfl, by omega⟩, fun b (eb : some 55 = some b) => ?_, fun (eb : some 55 = none) => by cases eb⟩
  cases eb
  refine ⟨fun (c2 : I 57 0 = -1) => b2 (Or.inl (g0.symm.trans c2)), fun (c2 : ¬ I 57 0 = -1) => ⟨fun (c3 : ¬ I 55 0 = -1) => ⟨fun (c4 : I 57 0 = I 55 0) => ?_, fun (c4 : ¬ I 57 0 = I 55 0) => bad _ ?_⟩, fun (c3 : I 55 0 = -1) => b2 (Or.inr (k0.symm.trans c3))⟩⟩
  · have c2 : ¬ S 1 = -1 := fun h => c2 (g0.trans h)
    have c3 : ¬ S 0 = -1 := fun h => c3 (k0.trans h)
    have c4 : S 1 = S 0 := g0.symm.trans (c4.trans k0)
    rw [if_neg (fun h => h.elim (fun q => c2 (hneg.mp q)) (fun q => c3 (hneg2.mp q))), if_neg (fun h => h c4)] at e
    have b3 : gs_cpBad p q c (Z 1) (Z 0) → K (some (.int (-1000000013))) I (sx_run rw m ln) := fun h => bad _ (by rw [if_pos h] at e; exact e)
    refine hC _ _ _ _ _ (c_hasPl_57 (g1.trans oz) oz24 (fun h => ⟨fun _ => b3 ?_, fun (q : ¬ nI 0 = 0) => absurd rfl q⟩) (fun h => ⟨fun (q : nI 1 = 0) => absurd q (by decide +kernel), fun _ => hC _ _ _ _ _ (c_hasPl_55 (k1.trans oy) oy24 (fun h2 => ⟨fun (q : ¬ nI 0 = 0) => absurd rfl q, fun _ => b3 ?_⟩) (fun h2 => ⟨fun _ => ?_, fun (q : nI 1 = 0) => absurd q (by decide +kernel)⟩))⟩))
    · rcases Decidable.not_not.mp h with h | h | h
      · exact Or.inl h
      · exact Or.inr (Or.inr (Or.inl h))
      · exact Or.inr (Or.inr (Or.inr (Or.inl (by rw [oz]; exact h))))
    · rcases Decidable.not_not.mp h2 with h | h | h
      · exact Or.inr (Or.inl h)
      · exact Or.inr (Or.inr (Or.inl h))
      · exact Or.inr (Or.inr (Or.inr (Or.inr (by rw [oy]; exact h))))
    · have nb : ¬ gs_cpBad p q c (Z 1) (Z 0) := by
        rintro (x | x | x | x | x)
        · exact h (Or.inl x)
        · exact h2 (Or.inl x)
        · exact h (Or.inr (Or.inl x))
        · exact h (Or.inr (Or.inr (by rw [← oz]; exact x)))
        · exact h2 (Or.inr (Or.inr (by rw [← oy]; exact x)))
      rw [if_neg nb] at e
      obtain ⟨p, rfl, hp⟩ := gs_nat (fun x => h (Or.inl x))
      obtain ⟨q, rfl, hq⟩ := gs_nat (fun x => h2 (Or.inl x))
      obtain ⟨c, rfl, hc⟩ := gs_nat (fun x => h (Or.inr (Or.inl x)))
      have hpz : p + c ≤ z := by
        refine Nat.le_of_not_lt (fun x => h (Or.inr (Or.inr ?_)))
        rw [nI_clamp (by omega), nI_clamp hp, nI_clamp hc]; exact x
      have hqy : q + c ≤ y := by
        refine Nat.le_of_not_lt (fun x => h2 (Or.inr (Or.inr ?_)))
        rw [nI_clamp (by omega), nI_clamp hq, nI_clamp hc]; exact x
      rw [nI_clamp hp, nI_clamp hq, nI_clamp hc] at e
      subst e
      refine ⟨c, p, q, ⟨rfl, rfl, rfl, by omega, by omega⟩, Nat.le_of_ble_eq_true rfl, ?_⟩
      exact hk _ (fun x hx => sx_up_ne (by omega)) (hg.cpy (a := 1) (b := 0) (by omega) (by omega) (by omega) (by omega))
  · have c2 : ¬ S 1 = -1 := fun h => c2 (g0.trans h)
    have c3 : ¬ S 0 = -1 := fun h => c3 (k0.trans h)
    have c4 : ¬ S 1 = S 0 := fun h => c4 (g0.trans (h.trans k0.symm))
    rw [if_neg (fun h => h.elim (fun q => c2 (hneg.mp q)) (fun q => c3 (hneg2.mp q))), if_pos c4] at e
    exact e
theorem c1_copy_57_57 {p q c : Int32} (hg : gh S Z R I) (ho : gh_ok S Z R) (hk : ∀ J, (∀ x, (x < 55 ∨ 62 < x) → J x = I x) → gh S Z (gs_copy S Z R (nI 1) p (nI 1) q c).1 J → K (some (.int (gs_copy S Z R (nI 1) p (nI 1) q c).2)) J (sx_run rw m ln)) : sx_C 91 (d + 3) [.ref 15, .int (nI 1), .int p, .int (nI 1), .int q, .int c] I (sx_run rw m ln) K := by
  have hsh : ¬ gs_in (nI 1) 0 (nI 3) = 0 := gs_in_c (by omega) (by omega)
  have hsh2 : ¬ gs_in (nI 1) 0 (nI 3) = 0 := gs_in_c (by omega) (by omega)
  have g0 : I 57 0 = S 1 := (hg 1 (by omega)).1
  have g1 : I 57 1 = Z 1 := (hg 1 (by omega)).2.1
  have k0 : I 57 0 = S 1 := (hg 1 (by omega)).1
  have k1 : I 57 1 = Z 1 := (hg 1 (by omega)).2.1
  obtain ⟨-, ⟨z, oz, oz24⟩, -⟩ := ho 1 (by omega)
  obtain ⟨-, ⟨y, oy, oy24⟩, -⟩ := ho 1 (by omega)
  have hneg := gh_S ho (j := 1) (by omega)
  have hneg2 := gh_S ho (j := 1) (by omega)
  generalize e : gs_copy S Z R (nI 1) p (nI 1) q c = g at hk
  unfold gs_copy at e
  rw [if_neg (fun h => h.elim hsh hsh2), show (nI 1).toNatClampNeg = 1 from nI_clamp (by omega)] at e
  try rw [show (nI 1).toNatClampNeg = 1 from nI_clamp (by omega)] at e
  have bad : ∀ x, (R, x) = g → K (some (.int x)) I (sx_run rw m ln) := by
    intro x h; subst h; exact hk I (fun _ _ => rfl) hg
  have b2 : (S 1 = -1 ∨ S 1 = -1) → K (some (.int (-1000000011))) I (sx_run rw m ln) := fun h => bad _ (by rw [if_pos (h.elim (fun q => Or.inl (hneg.mpr q)) (fun q => Or.inr (hneg2.mpr q)))] at e; exact e)
  refine sx_enter (by decide +kernel) (Nat.le_of_ble_eq_true rfl) (sx_go m91 100 rfl (fun VV CC hV hC => ?_))
  refine hC _ _ _ _ _ (c_isSheet1 ⟨fun (c1 : gs_in (nI 1) 0 (nI 3) = 0) => absurd c1 hsh, fun _ => hC _ _ _ _ _ (c_isSheet1 ⟨fun _ => ⟨1, ⟨rfl, by omega⟩, fun b (eb : some 57 = some b) => ?_, fun (eb : some 57 = none) => by cases eb⟩, fun (c1 : gs_in (nI 1) 0 (nI 3) = 0) => absurd c1 hsh2⟩)⟩)
  cases eb
  refine ⟨1, ⟨rfl, by omega⟩, fun b (eb : some 57 = some b) => ?_, fun (eb : some 57 = none) => by cases eb⟩
  cases eb
  refine ⟨fun (c2 : I 57 0 = -1) => b2 (Or.inl (g0.symm.trans c2)), fun (c2 : ¬ I 57 0 = -1) => ⟨fun (c3 : ¬ I 57 0 = -1) => ⟨fun (c4 : I 57 0 = I 57 0) => ?_, fun (c4 : ¬ I 57 0 = I 57 0) => bad _ ?_⟩, fun (c3 : I 57 0 = -1) => b2 (Or.inr (k0.symm.trans c3))⟩⟩
  · have c2 : ¬ S 1 = -1 := fun h => c2 (g0.trans h)
    have c3 : ¬ S 1 = -1 := fun h => c3 (k0.trans h)
    have c4 : S 1 = S 1 := g0.symm.trans (c4.trans k0)
    rw [if_neg (fun h => h.elim (fun q => c2 (hneg.mp q)) (fun q => c3 (hneg2.mp q))), if_neg (fun h => h c4)] at e
    have b3 : gs_cpBad p q c (Z 1) (Z 1) → K (some (.int (-1000000013))) I (sx_run rw m ln) := fun h => bad _ (by rw [if_pos h] at e; exact e)
    refine hC _ _ _ _ _ (c_hasPl_57 (g1.trans oz) oz24 (fun h => ⟨fun _ => b3 ?_, fun (q : ¬ nI 0 = 0) => absurd rfl q⟩) (fun h => ⟨fun (q : nI 1 = 0) => absurd q (by decide +kernel), fun _ => hC _ _ _ _ _ (c_hasPl_57 (k1.trans oy) oy24 (fun h2 => ⟨fun (q : ¬ nI 0 = 0) => absurd rfl q, fun _ => b3 ?_⟩) (fun h2 => ⟨fun _ => ?_, fun (q : nI 1 = 0) => absurd q (by decide +kernel)⟩))⟩))
    · rcases Decidable.not_not.mp h with h | h | h
      · exact Or.inl h
      · exact Or.inr (Or.inr (Or.inl h))
      · exact Or.inr (Or.inr (Or.inr (Or.inl (by rw [oz]; exact h))))
    · rcases Decidable.not_not.mp h2 with h | h | h
      · exact Or.inr (Or.inl h)
      · exact Or.inr (Or.inr (Or.inl h))
      · exact Or.inr (Or.inr (Or.inr (Or.inr (by rw [oy]; exact h))))
    · have nb : ¬ gs_cpBad p q c (Z 1) (Z 1) := by
        rintro (x | x | x | x | x)
        · exact h (Or.inl x)
        · exact h2 (Or.inl x)
        · exact h (Or.inr (Or.inl x))
        · exact h (Or.inr (Or.inr (by rw [← oz]; exact x)))
        · exact h2 (Or.inr (Or.inr (by rw [← oy]; exact x)))
      rw [if_neg nb] at e
      obtain ⟨p, rfl, hp⟩ := gs_nat (fun x => h (Or.inl x))
      obtain ⟨q, rfl, hq⟩ := gs_nat (fun x => h2 (Or.inl x))
      obtain ⟨c, rfl, hc⟩ := gs_nat (fun x => h (Or.inr (Or.inl x)))
      have hpz : p + c ≤ z := by
        refine Nat.le_of_not_lt (fun x => h (Or.inr (Or.inr ?_)))
        rw [nI_clamp (by omega), nI_clamp hp, nI_clamp hc]; exact x
      have hqy : q + c ≤ y := by
        refine Nat.le_of_not_lt (fun x => h2 (Or.inr (Or.inr ?_)))
        rw [nI_clamp (by omega), nI_clamp hq, nI_clamp hc]; exact x
      rw [nI_clamp hp, nI_clamp hq, nI_clamp hc] at e
      subst e
      refine ⟨c, p, q, ⟨rfl, rfl, rfl, by omega, by omega⟩, Nat.le_of_ble_eq_true rfl, ?_⟩
      exact hk _ (fun x hx => sx_up_ne (by omega)) (hg.cpy (a := 1) (b := 1) (by omega) (by omega) (by omega) (by omega))
  · have c2 : ¬ S 1 = -1 := fun h => c2 (g0.trans h)
    have c3 : ¬ S 1 = -1 := fun h => c3 (k0.trans h)
    have c4 : ¬ S 1 = S 1 := fun h => c4 (g0.trans (h.trans k0.symm))
    rw [if_neg (fun h => h.elim (fun q => c2 (hneg.mp q)) (fun q => c3 (hneg2.mp q))), if_pos c4] at e
    exact e
theorem c1_copy_57_59 {p q c : Int32} (hg : gh S Z R I) (ho : gh_ok S Z R) (hk : ∀ J, (∀ x, (x < 55 ∨ 62 < x) → J x = I x) → gh S Z (gs_copy S Z R (nI 1) p (nI 2) q c).1 J → K (some (.int (gs_copy S Z R (nI 1) p (nI 2) q c).2)) J (sx_run rw m ln)) : sx_C 91 (d + 3) [.ref 15, .int (nI 1), .int p, .int (nI 2), .int q, .int c] I (sx_run rw m ln) K := by
  have hsh : ¬ gs_in (nI 1) 0 (nI 3) = 0 := gs_in_c (by omega) (by omega)
  have hsh2 : ¬ gs_in (nI 2) 0 (nI 3) = 0 := gs_in_c (by omega) (by omega)
  have g0 : I 57 0 = S 1 := (hg 1 (by omega)).1
  have g1 : I 57 1 = Z 1 := (hg 1 (by omega)).2.1
  have k0 : I 59 0 = S 2 := (hg 2 (by omega)).1
  have k1 : I 59 1 = Z 2 := (hg 2 (by omega)).2.1
  obtain ⟨-, ⟨z, oz, oz24⟩, -⟩ := ho 1 (by omega)
  obtain ⟨-, ⟨y, oy, oy24⟩, -⟩ := ho 2 (by omega)
  have hneg := gh_S ho (j := 1) (by omega)
  have hneg2 := gh_S ho (j := 2) (by omega)
  generalize e : gs_copy S Z R (nI 1) p (nI 2) q c = g at hk
  unfold gs_copy at e
  rw [if_neg (fun h => h.elim hsh hsh2), show (nI 1).toNatClampNeg = 1 from nI_clamp (by omega)] at e
  try rw [show (nI 2).toNatClampNeg = 2 from nI_clamp (by omega)] at e
  have bad : ∀ x, (R, x) = g → K (some (.int x)) I (sx_run rw m ln) := by
    intro x h; subst h; exact hk I (fun _ _ => rfl) hg
  have b2 : (S 1 = -1 ∨ S 2 = -1) → K (some (.int (-1000000011))) I (sx_run rw m ln) := fun h => bad _ (by rw [if_pos (h.elim (fun q => Or.inl (hneg.mpr q)) (fun q => Or.inr (hneg2.mpr q)))] at e; exact e)
  refine sx_enter (by decide +kernel) (Nat.le_of_ble_eq_true rfl) (sx_go m91 100 rfl (fun VV CC hV hC => ?_))
  refine hC _ _ _ _ _ (c_isSheet1 ⟨fun (c1 : gs_in (nI 1) 0 (nI 3) = 0) => absurd c1 hsh, fun _ => hC _ _ _ _ _ (c_isSheet1 ⟨fun _ => ⟨1, ⟨rfl, by omega⟩, fun b (eb : some 57 = some b) => ?_, fun (eb : some 57 = none) => by cases eb⟩, fun (c1 : gs_in (nI 2) 0 (nI 3) = 0) => absurd c1 hsh2⟩)⟩)
  cases eb
  refine ⟨2, ⟨rfl, by omega⟩, fun b (eb : some 59 = some b) => ?_, fun (eb : some 59 = none) => by cases eb⟩
  cases eb
  refine ⟨fun (c2 : I 57 0 = -1) => b2 (Or.inl (g0.symm.trans c2)), fun (c2 : ¬ I 57 0 = -1) => ⟨fun (c3 : ¬ I 59 0 = -1) => ⟨fun (c4 : I 57 0 = I 59 0) => ?_, fun (c4 : ¬ I 57 0 = I 59 0) => bad _ ?_⟩, fun (c3 : I 59 0 = -1) => b2 (Or.inr (k0.symm.trans c3))⟩⟩
  · have c2 : ¬ S 1 = -1 := fun h => c2 (g0.trans h)
    have c3 : ¬ S 2 = -1 := fun h => c3 (k0.trans h)
    have c4 : S 1 = S 2 := g0.symm.trans (c4.trans k0)
    rw [if_neg (fun h => h.elim (fun q => c2 (hneg.mp q)) (fun q => c3 (hneg2.mp q))), if_neg (fun h => h c4)] at e
    have b3 : gs_cpBad p q c (Z 1) (Z 2) → K (some (.int (-1000000013))) I (sx_run rw m ln) := fun h => bad _ (by rw [if_pos h] at e; exact e)
    refine hC _ _ _ _ _ (c_hasPl_57 (g1.trans oz) oz24 (fun h => ⟨fun _ => b3 ?_, fun (q : ¬ nI 0 = 0) => absurd rfl q⟩) (fun h => ⟨fun (q : nI 1 = 0) => absurd q (by decide +kernel), fun _ => hC _ _ _ _ _ (c_hasPl_59 (k1.trans oy) oy24 (fun h2 => ⟨fun (q : ¬ nI 0 = 0) => absurd rfl q, fun _ => b3 ?_⟩) (fun h2 => ⟨fun _ => ?_, fun (q : nI 1 = 0) => absurd q (by decide +kernel)⟩))⟩))
    · rcases Decidable.not_not.mp h with h | h | h
      · exact Or.inl h
      · exact Or.inr (Or.inr (Or.inl h))
      · exact Or.inr (Or.inr (Or.inr (Or.inl (by rw [oz]; exact h))))
    · rcases Decidable.not_not.mp h2 with h | h | h
      · exact Or.inr (Or.inl h)
      · exact Or.inr (Or.inr (Or.inl h))
      · exact Or.inr (Or.inr (Or.inr (Or.inr (by rw [oy]; exact h))))
    · have nb : ¬ gs_cpBad p q c (Z 1) (Z 2) := by
        rintro (x | x | x | x | x)
        · exact h (Or.inl x)
        · exact h2 (Or.inl x)
        · exact h (Or.inr (Or.inl x))
        · exact h (Or.inr (Or.inr (by rw [← oz]; exact x)))
        · exact h2 (Or.inr (Or.inr (by rw [← oy]; exact x)))
      rw [if_neg nb] at e
      obtain ⟨p, rfl, hp⟩ := gs_nat (fun x => h (Or.inl x))
      obtain ⟨q, rfl, hq⟩ := gs_nat (fun x => h2 (Or.inl x))
      obtain ⟨c, rfl, hc⟩ := gs_nat (fun x => h (Or.inr (Or.inl x)))
      have hpz : p + c ≤ z := by
        refine Nat.le_of_not_lt (fun x => h (Or.inr (Or.inr ?_)))
        rw [nI_clamp (by omega), nI_clamp hp, nI_clamp hc]; exact x
      have hqy : q + c ≤ y := by
        refine Nat.le_of_not_lt (fun x => h2 (Or.inr (Or.inr ?_)))
        rw [nI_clamp (by omega), nI_clamp hq, nI_clamp hc]; exact x
      rw [nI_clamp hp, nI_clamp hq, nI_clamp hc] at e
      subst e
      refine ⟨c, p, q, ⟨rfl, rfl, rfl, by omega, by omega⟩, Nat.le_of_ble_eq_true rfl, ?_⟩
      exact hk _ (fun x hx => sx_up_ne (by omega)) (hg.cpy (a := 1) (b := 2) (by omega) (by omega) (by omega) (by omega))
  · have c2 : ¬ S 1 = -1 := fun h => c2 (g0.trans h)
    have c3 : ¬ S 2 = -1 := fun h => c3 (k0.trans h)
    have c4 : ¬ S 1 = S 2 := fun h => c4 (g0.trans (h.trans k0.symm))
    rw [if_neg (fun h => h.elim (fun q => c2 (hneg.mp q)) (fun q => c3 (hneg2.mp q))), if_pos c4] at e
    exact e
theorem c1_copy_57_61 {p q c : Int32} (hg : gh S Z R I) (ho : gh_ok S Z R) (hk : ∀ J, (∀ x, (x < 55 ∨ 62 < x) → J x = I x) → gh S Z (gs_copy S Z R (nI 1) p (nI 3) q c).1 J → K (some (.int (gs_copy S Z R (nI 1) p (nI 3) q c).2)) J (sx_run rw m ln)) : sx_C 91 (d + 3) [.ref 15, .int (nI 1), .int p, .int (nI 3), .int q, .int c] I (sx_run rw m ln) K := by
  have hsh : ¬ gs_in (nI 1) 0 (nI 3) = 0 := gs_in_c (by omega) (by omega)
  have hsh2 : ¬ gs_in (nI 3) 0 (nI 3) = 0 := gs_in_c (by omega) (by omega)
  have g0 : I 57 0 = S 1 := (hg 1 (by omega)).1
  have g1 : I 57 1 = Z 1 := (hg 1 (by omega)).2.1
  have k0 : I 61 0 = S 3 := (hg 3 (by omega)).1
  have k1 : I 61 1 = Z 3 := (hg 3 (by omega)).2.1
  obtain ⟨-, ⟨z, oz, oz24⟩, -⟩ := ho 1 (by omega)
  obtain ⟨-, ⟨y, oy, oy24⟩, -⟩ := ho 3 (by omega)
  have hneg := gh_S ho (j := 1) (by omega)
  have hneg2 := gh_S ho (j := 3) (by omega)
  generalize e : gs_copy S Z R (nI 1) p (nI 3) q c = g at hk
  unfold gs_copy at e
  rw [if_neg (fun h => h.elim hsh hsh2), show (nI 1).toNatClampNeg = 1 from nI_clamp (by omega)] at e
  try rw [show (nI 3).toNatClampNeg = 3 from nI_clamp (by omega)] at e
  have bad : ∀ x, (R, x) = g → K (some (.int x)) I (sx_run rw m ln) := by
    intro x h; subst h; exact hk I (fun _ _ => rfl) hg
  have b2 : (S 1 = -1 ∨ S 3 = -1) → K (some (.int (-1000000011))) I (sx_run rw m ln) := fun h => bad _ (by rw [if_pos (h.elim (fun q => Or.inl (hneg.mpr q)) (fun q => Or.inr (hneg2.mpr q)))] at e; exact e)
  refine sx_enter (by decide +kernel) (Nat.le_of_ble_eq_true rfl) (sx_go m91 100 rfl (fun VV CC hV hC => ?_))
  refine hC _ _ _ _ _ (c_isSheet1 ⟨fun (c1 : gs_in (nI 1) 0 (nI 3) = 0) => absurd c1 hsh, fun _ => hC _ _ _ _ _ (c_isSheet1 ⟨fun _ => ⟨1, ⟨rfl, by omega⟩, fun b (eb : some 57 = some b) => ?_, fun (eb : some 57 = none) => by cases eb⟩, fun (c1 : gs_in (nI 3) 0 (nI 3) = 0) => absurd c1 hsh2⟩)⟩)
  cases eb
  refine ⟨3, ⟨rfl, by omega⟩, fun b (eb : some 61 = some b) => ?_, fun (eb : some 61 = none) => by cases eb⟩
  cases eb
  refine ⟨fun (c2 : I 57 0 = -1) => b2 (Or.inl (g0.symm.trans c2)), fun (c2 : ¬ I 57 0 = -1) => ⟨fun (c3 : ¬ I 61 0 = -1) => ⟨fun (c4 : I 57 0 = I 61 0) => ?_, fun (c4 : ¬ I 57 0 = I 61 0) => bad _ ?_⟩, fun (c3 : I 61 0 = -1) => b2 (Or.inr (k0.symm.trans c3))⟩⟩
  · have c2 : ¬ S 1 = -1 := fun h => c2 (g0.trans h)
    have c3 : ¬ S 3 = -1 := fun h => c3 (k0.trans h)
    have c4 : S 1 = S 3 := g0.symm.trans (c4.trans k0)
    rw [if_neg (fun h => h.elim (fun q => c2 (hneg.mp q)) (fun q => c3 (hneg2.mp q))), if_neg (fun h => h c4)] at e
    have b3 : gs_cpBad p q c (Z 1) (Z 3) → K (some (.int (-1000000013))) I (sx_run rw m ln) := fun h => bad _ (by rw [if_pos h] at e; exact e)
    refine hC _ _ _ _ _ (c_hasPl_57 (g1.trans oz) oz24 (fun h => ⟨fun _ => b3 ?_, fun (q : ¬ nI 0 = 0) => absurd rfl q⟩) (fun h => ⟨fun (q : nI 1 = 0) => absurd q (by decide +kernel), fun _ => hC _ _ _ _ _ (c_hasPl_61 (k1.trans oy) oy24 (fun h2 => ⟨fun (q : ¬ nI 0 = 0) => absurd rfl q, fun _ => b3 ?_⟩) (fun h2 => ⟨fun _ => ?_, fun (q : nI 1 = 0) => absurd q (by decide +kernel)⟩))⟩))
    · rcases Decidable.not_not.mp h with h | h | h
      · exact Or.inl h
      · exact Or.inr (Or.inr (Or.inl h))
      · exact Or.inr (Or.inr (Or.inr (Or.inl (by rw [oz]; exact h))))
    · rcases Decidable.not_not.mp h2 with h | h | h
      · exact Or.inr (Or.inl h)
      · exact Or.inr (Or.inr (Or.inl h))
      · exact Or.inr (Or.inr (Or.inr (Or.inr (by rw [oy]; exact h))))
    · have nb : ¬ gs_cpBad p q c (Z 1) (Z 3) := by
        rintro (x | x | x | x | x)
        · exact h (Or.inl x)
        · exact h2 (Or.inl x)
        · exact h (Or.inr (Or.inl x))
        · exact h (Or.inr (Or.inr (by rw [← oz]; exact x)))
        · exact h2 (Or.inr (Or.inr (by rw [← oy]; exact x)))
      rw [if_neg nb] at e
      obtain ⟨p, rfl, hp⟩ := gs_nat (fun x => h (Or.inl x))
      obtain ⟨q, rfl, hq⟩ := gs_nat (fun x => h2 (Or.inl x))
      obtain ⟨c, rfl, hc⟩ := gs_nat (fun x => h (Or.inr (Or.inl x)))
      have hpz : p + c ≤ z := by
        refine Nat.le_of_not_lt (fun x => h (Or.inr (Or.inr ?_)))
        rw [nI_clamp (by omega), nI_clamp hp, nI_clamp hc]; exact x
      have hqy : q + c ≤ y := by
        refine Nat.le_of_not_lt (fun x => h2 (Or.inr (Or.inr ?_)))
        rw [nI_clamp (by omega), nI_clamp hq, nI_clamp hc]; exact x
      rw [nI_clamp hp, nI_clamp hq, nI_clamp hc] at e
      subst e
      refine ⟨c, p, q, ⟨rfl, rfl, rfl, by omega, by omega⟩, Nat.le_of_ble_eq_true rfl, ?_⟩
      exact hk _ (fun x hx => sx_up_ne (by omega)) (hg.cpy (a := 1) (b := 3) (by omega) (by omega) (by omega) (by omega))
  · have c2 : ¬ S 1 = -1 := fun h => c2 (g0.trans h)
    have c3 : ¬ S 3 = -1 := fun h => c3 (k0.trans h)
    have c4 : ¬ S 1 = S 3 := fun h => c4 (g0.trans (h.trans k0.symm))
    rw [if_neg (fun h => h.elim (fun q => c2 (hneg.mp q)) (fun q => c3 (hneg2.mp q))), if_pos c4] at e
    exact e
theorem c1_copy_59_55 {p q c : Int32} (hg : gh S Z R I) (ho : gh_ok S Z R) (hk : ∀ J, (∀ x, (x < 55 ∨ 62 < x) → J x = I x) → gh S Z (gs_copy S Z R (nI 2) p (nI 0) q c).1 J → K (some (.int (gs_copy S Z R (nI 2) p (nI 0) q c).2)) J (sx_run rw m ln)) : sx_C 91 (d + 3) [.ref 15, .int (nI 2), .int p, .int (nI 0), .int q, .int c] I (sx_run rw m ln) K := by
  have hsh : ¬ gs_in (nI 2) 0 (nI 3) = 0 := gs_in_c (by omega) (by omega)
  have hsh2 : ¬ gs_in (nI 0) 0 (nI 3) = 0 := gs_in_c (by omega) (by omega)
  have g0 : I 59 0 = S 2 := (hg 2 (by omega)).1
  have g1 : I 59 1 = Z 2 := (hg 2 (by omega)).2.1
  have k0 : I 55 0 = S 0 := (hg 0 (by omega)).1
  have k1 : I 55 1 = Z 0 := (hg 0 (by omega)).2.1
  obtain ⟨-, ⟨z, oz, oz24⟩, -⟩ := ho 2 (by omega)
  obtain ⟨-, ⟨y, oy, oy24⟩, -⟩ := ho 0 (by omega)
  have hneg := gh_S ho (j := 2) (by omega)
  have hneg2 := gh_S ho (j := 0) (by omega)
  generalize e : gs_copy S Z R (nI 2) p (nI 0) q c = g at hk
  unfold gs_copy at e
  rw [if_neg (fun h => h.elim hsh hsh2), show (nI 2).toNatClampNeg = 2 from nI_clamp (by omega)] at e
  try rw [show (nI 0).toNatClampNeg = 0 from nI_clamp (by omega)] at e
  have bad : ∀ x, (R, x) = g → K (some (.int x)) I (sx_run rw m ln) := by
    intro x h; subst h; exact hk I (fun _ _ => rfl) hg
  have b2 : (S 2 = -1 ∨ S 0 = -1) → K (some (.int (-1000000011))) I (sx_run rw m ln) := fun h => bad _ (by rw [if_pos (h.elim (fun q => Or.inl (hneg.mpr q)) (fun q => Or.inr (hneg2.mpr q)))] at e; exact e)
  refine sx_enter (by decide +kernel) (Nat.le_of_ble_eq_true rfl) (sx_go m91 100 rfl (fun VV CC hV hC => ?_))
  refine hC _ _ _ _ _ (c_isSheet1 ⟨fun (c1 : gs_in (nI 2) 0 (nI 3) = 0) => absurd c1 hsh, fun _ => hC _ _ _ _ _ (c_isSheet1 ⟨fun _ => ⟨2, ⟨rfl, by omega⟩, fun b (eb : some 59 = some b) => ?_, fun (eb : some 59 = none) => by cases eb⟩, fun (c1 : gs_in (nI 0) 0 (nI 3) = 0) => absurd c1 hsh2⟩)⟩)
  cases eb
  refine ⟨0, ⟨rfl, by omega⟩, fun b (eb : some 55 = some b) => ?_, fun (eb : some 55 = none) => by cases eb⟩
  cases eb
  refine ⟨fun (c2 : I 59 0 = -1) => b2 (Or.inl (g0.symm.trans c2)), fun (c2 : ¬ I 59 0 = -1) => ⟨fun (c3 : ¬ I 55 0 = -1) => ⟨fun (c4 : I 59 0 = I 55 0) => ?_, fun (c4 : ¬ I 59 0 = I 55 0) => bad _ ?_⟩, fun (c3 : I 55 0 = -1) => b2 (Or.inr (k0.symm.trans c3))⟩⟩
  · have c2 : ¬ S 2 = -1 := fun h => c2 (g0.trans h)
    have c3 : ¬ S 0 = -1 := fun h => c3 (k0.trans h)
    have c4 : S 2 = S 0 := g0.symm.trans (c4.trans k0)
    rw [if_neg (fun h => h.elim (fun q => c2 (hneg.mp q)) (fun q => c3 (hneg2.mp q))), if_neg (fun h => h c4)] at e
    have b3 : gs_cpBad p q c (Z 2) (Z 0) → K (some (.int (-1000000013))) I (sx_run rw m ln) := fun h => bad _ (by rw [if_pos h] at e; exact e)
    refine hC _ _ _ _ _ (c_hasPl_59 (g1.trans oz) oz24 (fun h => ⟨fun _ => b3 ?_, fun (q : ¬ nI 0 = 0) => absurd rfl q⟩) (fun h => ⟨fun (q : nI 1 = 0) => absurd q (by decide +kernel), fun _ => hC _ _ _ _ _ (c_hasPl_55 (k1.trans oy) oy24 (fun h2 => ⟨fun (q : ¬ nI 0 = 0) => absurd rfl q, fun _ => b3 ?_⟩) (fun h2 => ⟨fun _ => ?_, fun (q : nI 1 = 0) => absurd q (by decide +kernel)⟩))⟩))
    · rcases Decidable.not_not.mp h with h | h | h
      · exact Or.inl h
      · exact Or.inr (Or.inr (Or.inl h))
      · exact Or.inr (Or.inr (Or.inr (Or.inl (by rw [oz]; exact h))))
    · rcases Decidable.not_not.mp h2 with h | h | h
      · exact Or.inr (Or.inl h)
      · exact Or.inr (Or.inr (Or.inl h))
      · exact Or.inr (Or.inr (Or.inr (Or.inr (by rw [oy]; exact h))))
    · have nb : ¬ gs_cpBad p q c (Z 2) (Z 0) := by
        rintro (x | x | x | x | x)
        · exact h (Or.inl x)
        · exact h2 (Or.inl x)
        · exact h (Or.inr (Or.inl x))
        · exact h (Or.inr (Or.inr (by rw [← oz]; exact x)))
        · exact h2 (Or.inr (Or.inr (by rw [← oy]; exact x)))
      rw [if_neg nb] at e
      obtain ⟨p, rfl, hp⟩ := gs_nat (fun x => h (Or.inl x))
      obtain ⟨q, rfl, hq⟩ := gs_nat (fun x => h2 (Or.inl x))
      obtain ⟨c, rfl, hc⟩ := gs_nat (fun x => h (Or.inr (Or.inl x)))
      have hpz : p + c ≤ z := by
        refine Nat.le_of_not_lt (fun x => h (Or.inr (Or.inr ?_)))
        rw [nI_clamp (by omega), nI_clamp hp, nI_clamp hc]; exact x
      have hqy : q + c ≤ y := by
        refine Nat.le_of_not_lt (fun x => h2 (Or.inr (Or.inr ?_)))
        rw [nI_clamp (by omega), nI_clamp hq, nI_clamp hc]; exact x
      rw [nI_clamp hp, nI_clamp hq, nI_clamp hc] at e
      subst e
      refine ⟨c, p, q, ⟨rfl, rfl, rfl, by omega, by omega⟩, Nat.le_of_ble_eq_true rfl, ?_⟩
      exact hk _ (fun x hx => sx_up_ne (by omega)) (hg.cpy (a := 2) (b := 0) (by omega) (by omega) (by omega) (by omega))
  · have c2 : ¬ S 2 = -1 := fun h => c2 (g0.trans h)
    have c3 : ¬ S 0 = -1 := fun h => c3 (k0.trans h)
    have c4 : ¬ S 2 = S 0 := fun h => c4 (g0.trans (h.trans k0.symm))
    rw [if_neg (fun h => h.elim (fun q => c2 (hneg.mp q)) (fun q => c3 (hneg2.mp q))), if_pos c4] at e
    exact e
theorem c1_copy_59_57 {p q c : Int32} (hg : gh S Z R I) (ho : gh_ok S Z R) (hk : ∀ J, (∀ x, (x < 55 ∨ 62 < x) → J x = I x) → gh S Z (gs_copy S Z R (nI 2) p (nI 1) q c).1 J → K (some (.int (gs_copy S Z R (nI 2) p (nI 1) q c).2)) J (sx_run rw m ln)) : sx_C 91 (d + 3) [.ref 15, .int (nI 2), .int p, .int (nI 1), .int q, .int c] I (sx_run rw m ln) K := by
  have hsh : ¬ gs_in (nI 2) 0 (nI 3) = 0 := gs_in_c (by omega) (by omega)
  have hsh2 : ¬ gs_in (nI 1) 0 (nI 3) = 0 := gs_in_c (by omega) (by omega)
  have g0 : I 59 0 = S 2 := (hg 2 (by omega)).1
  have g1 : I 59 1 = Z 2 := (hg 2 (by omega)).2.1
  have k0 : I 57 0 = S 1 := (hg 1 (by omega)).1
  have k1 : I 57 1 = Z 1 := (hg 1 (by omega)).2.1
  obtain ⟨-, ⟨z, oz, oz24⟩, -⟩ := ho 2 (by omega)
  obtain ⟨-, ⟨y, oy, oy24⟩, -⟩ := ho 1 (by omega)
  have hneg := gh_S ho (j := 2) (by omega)
  have hneg2 := gh_S ho (j := 1) (by omega)
  generalize e : gs_copy S Z R (nI 2) p (nI 1) q c = g at hk
  unfold gs_copy at e
  rw [if_neg (fun h => h.elim hsh hsh2), show (nI 2).toNatClampNeg = 2 from nI_clamp (by omega)] at e
  try rw [show (nI 1).toNatClampNeg = 1 from nI_clamp (by omega)] at e
  have bad : ∀ x, (R, x) = g → K (some (.int x)) I (sx_run rw m ln) := by
    intro x h; subst h; exact hk I (fun _ _ => rfl) hg
  have b2 : (S 2 = -1 ∨ S 1 = -1) → K (some (.int (-1000000011))) I (sx_run rw m ln) := fun h => bad _ (by rw [if_pos (h.elim (fun q => Or.inl (hneg.mpr q)) (fun q => Or.inr (hneg2.mpr q)))] at e; exact e)
  refine sx_enter (by decide +kernel) (Nat.le_of_ble_eq_true rfl) (sx_go m91 100 rfl (fun VV CC hV hC => ?_))
  refine hC _ _ _ _ _ (c_isSheet1 ⟨fun (c1 : gs_in (nI 2) 0 (nI 3) = 0) => absurd c1 hsh, fun _ => hC _ _ _ _ _ (c_isSheet1 ⟨fun _ => ⟨2, ⟨rfl, by omega⟩, fun b (eb : some 59 = some b) => ?_, fun (eb : some 59 = none) => by cases eb⟩, fun (c1 : gs_in (nI 1) 0 (nI 3) = 0) => absurd c1 hsh2⟩)⟩)
  cases eb
  refine ⟨1, ⟨rfl, by omega⟩, fun b (eb : some 57 = some b) => ?_, fun (eb : some 57 = none) => by cases eb⟩
  cases eb
  refine ⟨fun (c2 : I 59 0 = -1) => b2 (Or.inl (g0.symm.trans c2)), fun (c2 : ¬ I 59 0 = -1) => ⟨fun (c3 : ¬ I 57 0 = -1) => ⟨fun (c4 : I 59 0 = I 57 0) => ?_, fun (c4 : ¬ I 59 0 = I 57 0) => bad _ ?_⟩, fun (c3 : I 57 0 = -1) => b2 (Or.inr (k0.symm.trans c3))⟩⟩
  · have c2 : ¬ S 2 = -1 := fun h => c2 (g0.trans h)
    have c3 : ¬ S 1 = -1 := fun h => c3 (k0.trans h)
    have c4 : S 2 = S 1 := g0.symm.trans (c4.trans k0)
    rw [if_neg (fun h => h.elim (fun q => c2 (hneg.mp q)) (fun q => c3 (hneg2.mp q))), if_neg (fun h => h c4)] at e
    have b3 : gs_cpBad p q c (Z 2) (Z 1) → K (some (.int (-1000000013))) I (sx_run rw m ln) := fun h => bad _ (by rw [if_pos h] at e; exact e)
    refine hC _ _ _ _ _ (c_hasPl_59 (g1.trans oz) oz24 (fun h => ⟨fun _ => b3 ?_, fun (q : ¬ nI 0 = 0) => absurd rfl q⟩) (fun h => ⟨fun (q : nI 1 = 0) => absurd q (by decide +kernel), fun _ => hC _ _ _ _ _ (c_hasPl_57 (k1.trans oy) oy24 (fun h2 => ⟨fun (q : ¬ nI 0 = 0) => absurd rfl q, fun _ => b3 ?_⟩) (fun h2 => ⟨fun _ => ?_, fun (q : nI 1 = 0) => absurd q (by decide +kernel)⟩))⟩))
    · rcases Decidable.not_not.mp h with h | h | h
      · exact Or.inl h
      · exact Or.inr (Or.inr (Or.inl h))
      · exact Or.inr (Or.inr (Or.inr (Or.inl (by rw [oz]; exact h))))
    · rcases Decidable.not_not.mp h2 with h | h | h
      · exact Or.inr (Or.inl h)
      · exact Or.inr (Or.inr (Or.inl h))
      · exact Or.inr (Or.inr (Or.inr (Or.inr (by rw [oy]; exact h))))
    · have nb : ¬ gs_cpBad p q c (Z 2) (Z 1) := by
        rintro (x | x | x | x | x)
        · exact h (Or.inl x)
        · exact h2 (Or.inl x)
        · exact h (Or.inr (Or.inl x))
        · exact h (Or.inr (Or.inr (by rw [← oz]; exact x)))
        · exact h2 (Or.inr (Or.inr (by rw [← oy]; exact x)))
      rw [if_neg nb] at e
      obtain ⟨p, rfl, hp⟩ := gs_nat (fun x => h (Or.inl x))
      obtain ⟨q, rfl, hq⟩ := gs_nat (fun x => h2 (Or.inl x))
      obtain ⟨c, rfl, hc⟩ := gs_nat (fun x => h (Or.inr (Or.inl x)))
      have hpz : p + c ≤ z := by
        refine Nat.le_of_not_lt (fun x => h (Or.inr (Or.inr ?_)))
        rw [nI_clamp (by omega), nI_clamp hp, nI_clamp hc]; exact x
      have hqy : q + c ≤ y := by
        refine Nat.le_of_not_lt (fun x => h2 (Or.inr (Or.inr ?_)))
        rw [nI_clamp (by omega), nI_clamp hq, nI_clamp hc]; exact x
      rw [nI_clamp hp, nI_clamp hq, nI_clamp hc] at e
      subst e
      refine ⟨c, p, q, ⟨rfl, rfl, rfl, by omega, by omega⟩, Nat.le_of_ble_eq_true rfl, ?_⟩
      exact hk _ (fun x hx => sx_up_ne (by omega)) (hg.cpy (a := 2) (b := 1) (by omega) (by omega) (by omega) (by omega))
  · have c2 : ¬ S 2 = -1 := fun h => c2 (g0.trans h)
    have c3 : ¬ S 1 = -1 := fun h => c3 (k0.trans h)
    have c4 : ¬ S 2 = S 1 := fun h => c4 (g0.trans (h.trans k0.symm))
    rw [if_neg (fun h => h.elim (fun q => c2 (hneg.mp q)) (fun q => c3 (hneg2.mp q))), if_pos c4] at e
    exact e
theorem c1_copy_59_59 {p q c : Int32} (hg : gh S Z R I) (ho : gh_ok S Z R) (hk : ∀ J, (∀ x, (x < 55 ∨ 62 < x) → J x = I x) → gh S Z (gs_copy S Z R (nI 2) p (nI 2) q c).1 J → K (some (.int (gs_copy S Z R (nI 2) p (nI 2) q c).2)) J (sx_run rw m ln)) : sx_C 91 (d + 3) [.ref 15, .int (nI 2), .int p, .int (nI 2), .int q, .int c] I (sx_run rw m ln) K := by
  have hsh : ¬ gs_in (nI 2) 0 (nI 3) = 0 := gs_in_c (by omega) (by omega)
  have hsh2 : ¬ gs_in (nI 2) 0 (nI 3) = 0 := gs_in_c (by omega) (by omega)
  have g0 : I 59 0 = S 2 := (hg 2 (by omega)).1
  have g1 : I 59 1 = Z 2 := (hg 2 (by omega)).2.1
  have k0 : I 59 0 = S 2 := (hg 2 (by omega)).1
  have k1 : I 59 1 = Z 2 := (hg 2 (by omega)).2.1
  obtain ⟨-, ⟨z, oz, oz24⟩, -⟩ := ho 2 (by omega)
  obtain ⟨-, ⟨y, oy, oy24⟩, -⟩ := ho 2 (by omega)
  have hneg := gh_S ho (j := 2) (by omega)
  have hneg2 := gh_S ho (j := 2) (by omega)
  generalize e : gs_copy S Z R (nI 2) p (nI 2) q c = g at hk
  unfold gs_copy at e
  rw [if_neg (fun h => h.elim hsh hsh2), show (nI 2).toNatClampNeg = 2 from nI_clamp (by omega)] at e
  try rw [show (nI 2).toNatClampNeg = 2 from nI_clamp (by omega)] at e
  have bad : ∀ x, (R, x) = g → K (some (.int x)) I (sx_run rw m ln) := by
    intro x h; subst h; exact hk I (fun _ _ => rfl) hg
  have b2 : (S 2 = -1 ∨ S 2 = -1) → K (some (.int (-1000000011))) I (sx_run rw m ln) := fun h => bad _ (by rw [if_pos (h.elim (fun q => Or.inl (hneg.mpr q)) (fun q => Or.inr (hneg2.mpr q)))] at e; exact e)
  refine sx_enter (by decide +kernel) (Nat.le_of_ble_eq_true rfl) (sx_go m91 100 rfl (fun VV CC hV hC => ?_))
  refine hC _ _ _ _ _ (c_isSheet1 ⟨fun (c1 : gs_in (nI 2) 0 (nI 3) = 0) => absurd c1 hsh, fun _ => hC _ _ _ _ _ (c_isSheet1 ⟨fun _ => ⟨2, ⟨rfl, by omega⟩, fun b (eb : some 59 = some b) => ?_, fun (eb : some 59 = none) => by cases eb⟩, fun (c1 : gs_in (nI 2) 0 (nI 3) = 0) => absurd c1 hsh2⟩)⟩)
  cases eb
  refine ⟨2, ⟨rfl, by omega⟩, fun b (eb : some 59 = some b) => ?_, fun (eb : some 59 = none) => by cases eb⟩
  cases eb
  refine ⟨fun (c2 : I 59 0 = -1) => b2 (Or.inl (g0.symm.trans c2)), fun (c2 : ¬ I 59 0 = -1) => ⟨fun (c3 : ¬ I 59 0 = -1) => ⟨fun (c4 : I 59 0 = I 59 0) => ?_, fun (c4 : ¬ I 59 0 = I 59 0) => bad _ ?_⟩, fun (c3 : I 59 0 = -1) => b2 (Or.inr (k0.symm.trans c3))⟩⟩
  · have c2 : ¬ S 2 = -1 := fun h => c2 (g0.trans h)
    have c3 : ¬ S 2 = -1 := fun h => c3 (k0.trans h)
    have c4 : S 2 = S 2 := g0.symm.trans (c4.trans k0)
    rw [if_neg (fun h => h.elim (fun q => c2 (hneg.mp q)) (fun q => c3 (hneg2.mp q))), if_neg (fun h => h c4)] at e
    have b3 : gs_cpBad p q c (Z 2) (Z 2) → K (some (.int (-1000000013))) I (sx_run rw m ln) := fun h => bad _ (by rw [if_pos h] at e; exact e)
    refine hC _ _ _ _ _ (c_hasPl_59 (g1.trans oz) oz24 (fun h => ⟨fun _ => b3 ?_, fun (q : ¬ nI 0 = 0) => absurd rfl q⟩) (fun h => ⟨fun (q : nI 1 = 0) => absurd q (by decide +kernel), fun _ => hC _ _ _ _ _ (c_hasPl_59 (k1.trans oy) oy24 (fun h2 => ⟨fun (q : ¬ nI 0 = 0) => absurd rfl q, fun _ => b3 ?_⟩) (fun h2 => ⟨fun _ => ?_, fun (q : nI 1 = 0) => absurd q (by decide +kernel)⟩))⟩))
    · rcases Decidable.not_not.mp h with h | h | h
      · exact Or.inl h
      · exact Or.inr (Or.inr (Or.inl h))
      · exact Or.inr (Or.inr (Or.inr (Or.inl (by rw [oz]; exact h))))
    · rcases Decidable.not_not.mp h2 with h | h | h
      · exact Or.inr (Or.inl h)
      · exact Or.inr (Or.inr (Or.inl h))
      · exact Or.inr (Or.inr (Or.inr (Or.inr (by rw [oy]; exact h))))
    · have nb : ¬ gs_cpBad p q c (Z 2) (Z 2) := by
        rintro (x | x | x | x | x)
        · exact h (Or.inl x)
        · exact h2 (Or.inl x)
        · exact h (Or.inr (Or.inl x))
        · exact h (Or.inr (Or.inr (by rw [← oz]; exact x)))
        · exact h2 (Or.inr (Or.inr (by rw [← oy]; exact x)))
      rw [if_neg nb] at e
      obtain ⟨p, rfl, hp⟩ := gs_nat (fun x => h (Or.inl x))
      obtain ⟨q, rfl, hq⟩ := gs_nat (fun x => h2 (Or.inl x))
      obtain ⟨c, rfl, hc⟩ := gs_nat (fun x => h (Or.inr (Or.inl x)))
      have hpz : p + c ≤ z := by
        refine Nat.le_of_not_lt (fun x => h (Or.inr (Or.inr ?_)))
        rw [nI_clamp (by omega), nI_clamp hp, nI_clamp hc]; exact x
      have hqy : q + c ≤ y := by
        refine Nat.le_of_not_lt (fun x => h2 (Or.inr (Or.inr ?_)))
        rw [nI_clamp (by omega), nI_clamp hq, nI_clamp hc]; exact x
      rw [nI_clamp hp, nI_clamp hq, nI_clamp hc] at e
      subst e
      refine ⟨c, p, q, ⟨rfl, rfl, rfl, by omega, by omega⟩, Nat.le_of_ble_eq_true rfl, ?_⟩
      exact hk _ (fun x hx => sx_up_ne (by omega)) (hg.cpy (a := 2) (b := 2) (by omega) (by omega) (by omega) (by omega))
  · have c2 : ¬ S 2 = -1 := fun h => c2 (g0.trans h)
    have c3 : ¬ S 2 = -1 := fun h => c3 (k0.trans h)
    have c4 : ¬ S 2 = S 2 := fun h => c4 (g0.trans (h.trans k0.symm))
    rw [if_neg (fun h => h.elim (fun q => c2 (hneg.mp q)) (fun q => c3 (hneg2.mp q))), if_pos c4] at e
    exact e
theorem c1_copy_59_61 {p q c : Int32} (hg : gh S Z R I) (ho : gh_ok S Z R) (hk : ∀ J, (∀ x, (x < 55 ∨ 62 < x) → J x = I x) → gh S Z (gs_copy S Z R (nI 2) p (nI 3) q c).1 J → K (some (.int (gs_copy S Z R (nI 2) p (nI 3) q c).2)) J (sx_run rw m ln)) : sx_C 91 (d + 3) [.ref 15, .int (nI 2), .int p, .int (nI 3), .int q, .int c] I (sx_run rw m ln) K := by
  have hsh : ¬ gs_in (nI 2) 0 (nI 3) = 0 := gs_in_c (by omega) (by omega)
  have hsh2 : ¬ gs_in (nI 3) 0 (nI 3) = 0 := gs_in_c (by omega) (by omega)
  have g0 : I 59 0 = S 2 := (hg 2 (by omega)).1
  have g1 : I 59 1 = Z 2 := (hg 2 (by omega)).2.1
  have k0 : I 61 0 = S 3 := (hg 3 (by omega)).1
  have k1 : I 61 1 = Z 3 := (hg 3 (by omega)).2.1
  obtain ⟨-, ⟨z, oz, oz24⟩, -⟩ := ho 2 (by omega)
  obtain ⟨-, ⟨y, oy, oy24⟩, -⟩ := ho 3 (by omega)
  have hneg := gh_S ho (j := 2) (by omega)
  have hneg2 := gh_S ho (j := 3) (by omega)
  generalize e : gs_copy S Z R (nI 2) p (nI 3) q c = g at hk
  unfold gs_copy at e
  rw [if_neg (fun h => h.elim hsh hsh2), show (nI 2).toNatClampNeg = 2 from nI_clamp (by omega)] at e
  try rw [show (nI 3).toNatClampNeg = 3 from nI_clamp (by omega)] at e
  have bad : ∀ x, (R, x) = g → K (some (.int x)) I (sx_run rw m ln) := by
    intro x h; subst h; exact hk I (fun _ _ => rfl) hg
  have b2 : (S 2 = -1 ∨ S 3 = -1) → K (some (.int (-1000000011))) I (sx_run rw m ln) := fun h => bad _ (by rw [if_pos (h.elim (fun q => Or.inl (hneg.mpr q)) (fun q => Or.inr (hneg2.mpr q)))] at e; exact e)
  refine sx_enter (by decide +kernel) (Nat.le_of_ble_eq_true rfl) (sx_go m91 100 rfl (fun VV CC hV hC => ?_))
  refine hC _ _ _ _ _ (c_isSheet1 ⟨fun (c1 : gs_in (nI 2) 0 (nI 3) = 0) => absurd c1 hsh, fun _ => hC _ _ _ _ _ (c_isSheet1 ⟨fun _ => ⟨2, ⟨rfl, by omega⟩, fun b (eb : some 59 = some b) => ?_, fun (eb : some 59 = none) => by cases eb⟩, fun (c1 : gs_in (nI 3) 0 (nI 3) = 0) => absurd c1 hsh2⟩)⟩)
  cases eb
  refine ⟨3, ⟨rfl, by omega⟩, fun b (eb : some 61 = some b) => ?_, fun (eb : some 61 = none) => by cases eb⟩
  cases eb
  refine ⟨fun (c2 : I 59 0 = -1) => b2 (Or.inl (g0.symm.trans c2)), fun (c2 : ¬ I 59 0 = -1) => ⟨fun (c3 : ¬ I 61 0 = -1) => ⟨fun (c4 : I 59 0 = I 61 0) => ?_, fun (c4 : ¬ I 59 0 = I 61 0) => bad _ ?_⟩, fun (c3 : I 61 0 = -1) => b2 (Or.inr (k0.symm.trans c3))⟩⟩
  · have c2 : ¬ S 2 = -1 := fun h => c2 (g0.trans h)
    have c3 : ¬ S 3 = -1 := fun h => c3 (k0.trans h)
    have c4 : S 2 = S 3 := g0.symm.trans (c4.trans k0)
    rw [if_neg (fun h => h.elim (fun q => c2 (hneg.mp q)) (fun q => c3 (hneg2.mp q))), if_neg (fun h => h c4)] at e
    have b3 : gs_cpBad p q c (Z 2) (Z 3) → K (some (.int (-1000000013))) I (sx_run rw m ln) := fun h => bad _ (by rw [if_pos h] at e; exact e)
    refine hC _ _ _ _ _ (c_hasPl_59 (g1.trans oz) oz24 (fun h => ⟨fun _ => b3 ?_, fun (q : ¬ nI 0 = 0) => absurd rfl q⟩) (fun h => ⟨fun (q : nI 1 = 0) => absurd q (by decide +kernel), fun _ => hC _ _ _ _ _ (c_hasPl_61 (k1.trans oy) oy24 (fun h2 => ⟨fun (q : ¬ nI 0 = 0) => absurd rfl q, fun _ => b3 ?_⟩) (fun h2 => ⟨fun _ => ?_, fun (q : nI 1 = 0) => absurd q (by decide +kernel)⟩))⟩))
    · rcases Decidable.not_not.mp h with h | h | h
      · exact Or.inl h
      · exact Or.inr (Or.inr (Or.inl h))
      · exact Or.inr (Or.inr (Or.inr (Or.inl (by rw [oz]; exact h))))
    · rcases Decidable.not_not.mp h2 with h | h | h
      · exact Or.inr (Or.inl h)
      · exact Or.inr (Or.inr (Or.inl h))
      · exact Or.inr (Or.inr (Or.inr (Or.inr (by rw [oy]; exact h))))
    · have nb : ¬ gs_cpBad p q c (Z 2) (Z 3) := by
        rintro (x | x | x | x | x)
        · exact h (Or.inl x)
        · exact h2 (Or.inl x)
        · exact h (Or.inr (Or.inl x))
        · exact h (Or.inr (Or.inr (by rw [← oz]; exact x)))
        · exact h2 (Or.inr (Or.inr (by rw [← oy]; exact x)))
      rw [if_neg nb] at e
      obtain ⟨p, rfl, hp⟩ := gs_nat (fun x => h (Or.inl x))
      obtain ⟨q, rfl, hq⟩ := gs_nat (fun x => h2 (Or.inl x))
      obtain ⟨c, rfl, hc⟩ := gs_nat (fun x => h (Or.inr (Or.inl x)))
      have hpz : p + c ≤ z := by
        refine Nat.le_of_not_lt (fun x => h (Or.inr (Or.inr ?_)))
        rw [nI_clamp (by omega), nI_clamp hp, nI_clamp hc]; exact x
      have hqy : q + c ≤ y := by
        refine Nat.le_of_not_lt (fun x => h2 (Or.inr (Or.inr ?_)))
        rw [nI_clamp (by omega), nI_clamp hq, nI_clamp hc]; exact x
      rw [nI_clamp hp, nI_clamp hq, nI_clamp hc] at e
      subst e
      refine ⟨c, p, q, ⟨rfl, rfl, rfl, by omega, by omega⟩, Nat.le_of_ble_eq_true rfl, ?_⟩
      exact hk _ (fun x hx => sx_up_ne (by omega)) (hg.cpy (a := 2) (b := 3) (by omega) (by omega) (by omega) (by omega))
  · have c2 : ¬ S 2 = -1 := fun h => c2 (g0.trans h)
    have c3 : ¬ S 3 = -1 := fun h => c3 (k0.trans h)
    have c4 : ¬ S 2 = S 3 := fun h => c4 (g0.trans (h.trans k0.symm))
    rw [if_neg (fun h => h.elim (fun q => c2 (hneg.mp q)) (fun q => c3 (hneg2.mp q))), if_pos c4] at e
    exact e
theorem c1_copy_61_55 {p q c : Int32} (hg : gh S Z R I) (ho : gh_ok S Z R) (hk : ∀ J, (∀ x, (x < 55 ∨ 62 < x) → J x = I x) → gh S Z (gs_copy S Z R (nI 3) p (nI 0) q c).1 J → K (some (.int (gs_copy S Z R (nI 3) p (nI 0) q c).2)) J (sx_run rw m ln)) : sx_C 91 (d + 3) [.ref 15, .int (nI 3), .int p, .int (nI 0), .int q, .int c] I (sx_run rw m ln) K := by
  have hsh : ¬ gs_in (nI 3) 0 (nI 3) = 0 := gs_in_c (by omega) (by omega)
  have hsh2 : ¬ gs_in (nI 0) 0 (nI 3) = 0 := gs_in_c (by omega) (by omega)
  have g0 : I 61 0 = S 3 := (hg 3 (by omega)).1
  have g1 : I 61 1 = Z 3 := (hg 3 (by omega)).2.1
  have k0 : I 55 0 = S 0 := (hg 0 (by omega)).1
  have k1 : I 55 1 = Z 0 := (hg 0 (by omega)).2.1
  obtain ⟨-, ⟨z, oz, oz24⟩, -⟩ := ho 3 (by omega)
  obtain ⟨-, ⟨y, oy, oy24⟩, -⟩ := ho 0 (by omega)
  have hneg := gh_S ho (j := 3) (by omega)
  have hneg2 := gh_S ho (j := 0) (by omega)
  generalize e : gs_copy S Z R (nI 3) p (nI 0) q c = g at hk
  unfold gs_copy at e
  rw [if_neg (fun h => h.elim hsh hsh2), show (nI 3).toNatClampNeg = 3 from nI_clamp (by omega)] at e
  try rw [show (nI 0).toNatClampNeg = 0 from nI_clamp (by omega)] at e
  have bad : ∀ x, (R, x) = g → K (some (.int x)) I (sx_run rw m ln) := by
    intro x h; subst h; exact hk I (fun _ _ => rfl) hg
  have b2 : (S 3 = -1 ∨ S 0 = -1) → K (some (.int (-1000000011))) I (sx_run rw m ln) := fun h => bad _ (by rw [if_pos (h.elim (fun q => Or.inl (hneg.mpr q)) (fun q => Or.inr (hneg2.mpr q)))] at e; exact e)
  refine sx_enter (by decide +kernel) (Nat.le_of_ble_eq_true rfl) (sx_go m91 100 rfl (fun VV CC hV hC => ?_))
  refine hC _ _ _ _ _ (c_isSheet1 ⟨fun (c1 : gs_in (nI 3) 0 (nI 3) = 0) => absurd c1 hsh, fun _ => hC _ _ _ _ _ (c_isSheet1 ⟨fun _ => ⟨3, ⟨rfl, by omega⟩, fun b (eb : some 61 = some b) => ?_, fun (eb : some 61 = none) => by cases eb⟩, fun (c1 : gs_in (nI 0) 0 (nI 3) = 0) => absurd c1 hsh2⟩)⟩)
  cases eb
  refine ⟨0, ⟨rfl, by omega⟩, fun b (eb : some 55 = some b) => ?_, fun (eb : some 55 = none) => by cases eb⟩
  cases eb
  refine ⟨fun (c2 : I 61 0 = -1) => b2 (Or.inl (g0.symm.trans c2)), fun (c2 : ¬ I 61 0 = -1) => ⟨fun (c3 : ¬ I 55 0 = -1) => ⟨fun (c4 : I 61 0 = I 55 0) => ?_, fun (c4 : ¬ I 61 0 = I 55 0) => bad _ ?_⟩, fun (c3 : I 55 0 = -1) => b2 (Or.inr (k0.symm.trans c3))⟩⟩
  · have c2 : ¬ S 3 = -1 := fun h => c2 (g0.trans h)
    have c3 : ¬ S 0 = -1 := fun h => c3 (k0.trans h)
    have c4 : S 3 = S 0 := g0.symm.trans (c4.trans k0)
    rw [if_neg (fun h => h.elim (fun q => c2 (hneg.mp q)) (fun q => c3 (hneg2.mp q))), if_neg (fun h => h c4)] at e
    have b3 : gs_cpBad p q c (Z 3) (Z 0) → K (some (.int (-1000000013))) I (sx_run rw m ln) := fun h => bad _ (by rw [if_pos h] at e; exact e)
    refine hC _ _ _ _ _ (c_hasPl_61 (g1.trans oz) oz24 (fun h => ⟨fun _ => b3 ?_, fun (q : ¬ nI 0 = 0) => absurd rfl q⟩) (fun h => ⟨fun (q : nI 1 = 0) => absurd q (by decide +kernel), fun _ => hC _ _ _ _ _ (c_hasPl_55 (k1.trans oy) oy24 (fun h2 => ⟨fun (q : ¬ nI 0 = 0) => absurd rfl q, fun _ => b3 ?_⟩) (fun h2 => ⟨fun _ => ?_, fun (q : nI 1 = 0) => absurd q (by decide +kernel)⟩))⟩))
    · rcases Decidable.not_not.mp h with h | h | h
      · exact Or.inl h
      · exact Or.inr (Or.inr (Or.inl h))
      · exact Or.inr (Or.inr (Or.inr (Or.inl (by rw [oz]; exact h))))
    · rcases Decidable.not_not.mp h2 with h | h | h
      · exact Or.inr (Or.inl h)
      · exact Or.inr (Or.inr (Or.inl h))
      · exact Or.inr (Or.inr (Or.inr (Or.inr (by rw [oy]; exact h))))
    · have nb : ¬ gs_cpBad p q c (Z 3) (Z 0) := by
        rintro (x | x | x | x | x)
        · exact h (Or.inl x)
        · exact h2 (Or.inl x)
        · exact h (Or.inr (Or.inl x))
        · exact h (Or.inr (Or.inr (by rw [← oz]; exact x)))
        · exact h2 (Or.inr (Or.inr (by rw [← oy]; exact x)))
      rw [if_neg nb] at e
      obtain ⟨p, rfl, hp⟩ := gs_nat (fun x => h (Or.inl x))
      obtain ⟨q, rfl, hq⟩ := gs_nat (fun x => h2 (Or.inl x))
      obtain ⟨c, rfl, hc⟩ := gs_nat (fun x => h (Or.inr (Or.inl x)))
      have hpz : p + c ≤ z := by
        refine Nat.le_of_not_lt (fun x => h (Or.inr (Or.inr ?_)))
        rw [nI_clamp (by omega), nI_clamp hp, nI_clamp hc]; exact x
      have hqy : q + c ≤ y := by
        refine Nat.le_of_not_lt (fun x => h2 (Or.inr (Or.inr ?_)))
        rw [nI_clamp (by omega), nI_clamp hq, nI_clamp hc]; exact x
      rw [nI_clamp hp, nI_clamp hq, nI_clamp hc] at e
      subst e
      refine ⟨c, p, q, ⟨rfl, rfl, rfl, by omega, by omega⟩, Nat.le_of_ble_eq_true rfl, ?_⟩
      exact hk _ (fun x hx => sx_up_ne (by omega)) (hg.cpy (a := 3) (b := 0) (by omega) (by omega) (by omega) (by omega))
  · have c2 : ¬ S 3 = -1 := fun h => c2 (g0.trans h)
    have c3 : ¬ S 0 = -1 := fun h => c3 (k0.trans h)
    have c4 : ¬ S 3 = S 0 := fun h => c4 (g0.trans (h.trans k0.symm))
    rw [if_neg (fun h => h.elim (fun q => c2 (hneg.mp q)) (fun q => c3 (hneg2.mp q))), if_pos c4] at e
    exact e
theorem c1_copy_61_57 {p q c : Int32} (hg : gh S Z R I) (ho : gh_ok S Z R) (hk : ∀ J, (∀ x, (x < 55 ∨ 62 < x) → J x = I x) → gh S Z (gs_copy S Z R (nI 3) p (nI 1) q c).1 J → K (some (.int (gs_copy S Z R (nI 3) p (nI 1) q c).2)) J (sx_run rw m ln)) : sx_C 91 (d + 3) [.ref 15, .int (nI 3), .int p, .int (nI 1), .int q, .int c] I (sx_run rw m ln) K := by
  have hsh : ¬ gs_in (nI 3) 0 (nI 3) = 0 := gs_in_c (by omega) (by omega)
  have hsh2 : ¬ gs_in (nI 1) 0 (nI 3) = 0 := gs_in_c (by omega) (by omega)
  have g0 : I 61 0 = S 3 := (hg 3 (by omega)).1
  have g1 : I 61 1 = Z 3 := (hg 3 (by omega)).2.1
  have k0 : I 57 0 = S 1 := (hg 1 (by omega)).1
  have k1 : I 57 1 = Z 1 := (hg 1 (by omega)).2.1
  obtain ⟨-, ⟨z, oz, oz24⟩, -⟩ := ho 3 (by omega)
  obtain ⟨-, ⟨y, oy, oy24⟩, -⟩ := ho 1 (by omega)
  have hneg := gh_S ho (j := 3) (by omega)
  have hneg2 := gh_S ho (j := 1) (by omega)
  generalize e : gs_copy S Z R (nI 3) p (nI 1) q c = g at hk
  unfold gs_copy at e
  rw [if_neg (fun h => h.elim hsh hsh2), show (nI 3).toNatClampNeg = 3 from nI_clamp (by omega)] at e
  try rw [show (nI 1).toNatClampNeg = 1 from nI_clamp (by omega)] at e
  have bad : ∀ x, (R, x) = g → K (some (.int x)) I (sx_run rw m ln) := by
    intro x h; subst h; exact hk I (fun _ _ => rfl) hg
  have b2 : (S 3 = -1 ∨ S 1 = -1) → K (some (.int (-1000000011))) I (sx_run rw m ln) := fun h => bad _ (by rw [if_pos (h.elim (fun q => Or.inl (hneg.mpr q)) (fun q => Or.inr (hneg2.mpr q)))] at e; exact e)
  refine sx_enter (by decide +kernel) (Nat.le_of_ble_eq_true rfl) (sx_go m91 100 rfl (fun VV CC hV hC => ?_))
  refine hC _ _ _ _ _ (c_isSheet1 ⟨fun (c1 : gs_in (nI 3) 0 (nI 3) = 0) => absurd c1 hsh, fun _ => hC _ _ _ _ _ (c_isSheet1 ⟨fun _ => ⟨3, ⟨rfl, by omega⟩, fun b (eb : some 61 = some b) => ?_, fun (eb : some 61 = none) => by cases eb⟩, fun (c1 : gs_in (nI 1) 0 (nI 3) = 0) => absurd c1 hsh2⟩)⟩)
  cases eb
  refine ⟨1, ⟨rfl, by omega⟩, fun b (eb : some 57 = some b) => ?_, fun (eb : some 57 = none) => by cases eb⟩
  cases eb
  refine ⟨fun (c2 : I 61 0 = -1) => b2 (Or.inl (g0.symm.trans c2)), fun (c2 : ¬ I 61 0 = -1) => ⟨fun (c3 : ¬ I 57 0 = -1) => ⟨fun (c4 : I 61 0 = I 57 0) => ?_, fun (c4 : ¬ I 61 0 = I 57 0) => bad _ ?_⟩, fun (c3 : I 57 0 = -1) => b2 (Or.inr (k0.symm.trans c3))⟩⟩
  · have c2 : ¬ S 3 = -1 := fun h => c2 (g0.trans h)
    have c3 : ¬ S 1 = -1 := fun h => c3 (k0.trans h)
    have c4 : S 3 = S 1 := g0.symm.trans (c4.trans k0)
    rw [if_neg (fun h => h.elim (fun q => c2 (hneg.mp q)) (fun q => c3 (hneg2.mp q))), if_neg (fun h => h c4)] at e
    have b3 : gs_cpBad p q c (Z 3) (Z 1) → K (some (.int (-1000000013))) I (sx_run rw m ln) := fun h => bad _ (by rw [if_pos h] at e; exact e)
    refine hC _ _ _ _ _ (c_hasPl_61 (g1.trans oz) oz24 (fun h => ⟨fun _ => b3 ?_, fun (q : ¬ nI 0 = 0) => absurd rfl q⟩) (fun h => ⟨fun (q : nI 1 = 0) => absurd q (by decide +kernel), fun _ => hC _ _ _ _ _ (c_hasPl_57 (k1.trans oy) oy24 (fun h2 => ⟨fun (q : ¬ nI 0 = 0) => absurd rfl q, fun _ => b3 ?_⟩) (fun h2 => ⟨fun _ => ?_, fun (q : nI 1 = 0) => absurd q (by decide +kernel)⟩))⟩))
    · rcases Decidable.not_not.mp h with h | h | h
      · exact Or.inl h
      · exact Or.inr (Or.inr (Or.inl h))
      · exact Or.inr (Or.inr (Or.inr (Or.inl (by rw [oz]; exact h))))
    · rcases Decidable.not_not.mp h2 with h | h | h
      · exact Or.inr (Or.inl h)
      · exact Or.inr (Or.inr (Or.inl h))
      · exact Or.inr (Or.inr (Or.inr (Or.inr (by rw [oy]; exact h))))
    · have nb : ¬ gs_cpBad p q c (Z 3) (Z 1) := by
        rintro (x | x | x | x | x)
        · exact h (Or.inl x)
        · exact h2 (Or.inl x)
        · exact h (Or.inr (Or.inl x))
        · exact h (Or.inr (Or.inr (by rw [← oz]; exact x)))
        · exact h2 (Or.inr (Or.inr (by rw [← oy]; exact x)))
      rw [if_neg nb] at e
      obtain ⟨p, rfl, hp⟩ := gs_nat (fun x => h (Or.inl x))
      obtain ⟨q, rfl, hq⟩ := gs_nat (fun x => h2 (Or.inl x))
      obtain ⟨c, rfl, hc⟩ := gs_nat (fun x => h (Or.inr (Or.inl x)))
      have hpz : p + c ≤ z := by
        refine Nat.le_of_not_lt (fun x => h (Or.inr (Or.inr ?_)))
        rw [nI_clamp (by omega), nI_clamp hp, nI_clamp hc]; exact x
      have hqy : q + c ≤ y := by
        refine Nat.le_of_not_lt (fun x => h2 (Or.inr (Or.inr ?_)))
        rw [nI_clamp (by omega), nI_clamp hq, nI_clamp hc]; exact x
      rw [nI_clamp hp, nI_clamp hq, nI_clamp hc] at e
      subst e
      refine ⟨c, p, q, ⟨rfl, rfl, rfl, by omega, by omega⟩, Nat.le_of_ble_eq_true rfl, ?_⟩
      exact hk _ (fun x hx => sx_up_ne (by omega)) (hg.cpy (a := 3) (b := 1) (by omega) (by omega) (by omega) (by omega))
  · have c2 : ¬ S 3 = -1 := fun h => c2 (g0.trans h)
    have c3 : ¬ S 1 = -1 := fun h => c3 (k0.trans h)
    have c4 : ¬ S 3 = S 1 := fun h => c4 (g0.trans (h.trans k0.symm))
    rw [if_neg (fun h => h.elim (fun q => c2 (hneg.mp q)) (fun q => c3 (hneg2.mp q))), if_pos c4] at e
    exact e
theorem c1_copy_61_59 {p q c : Int32} (hg : gh S Z R I) (ho : gh_ok S Z R) (hk : ∀ J, (∀ x, (x < 55 ∨ 62 < x) → J x = I x) → gh S Z (gs_copy S Z R (nI 3) p (nI 2) q c).1 J → K (some (.int (gs_copy S Z R (nI 3) p (nI 2) q c).2)) J (sx_run rw m ln)) : sx_C 91 (d + 3) [.ref 15, .int (nI 3), .int p, .int (nI 2), .int q, .int c] I (sx_run rw m ln) K := by
  have hsh : ¬ gs_in (nI 3) 0 (nI 3) = 0 := gs_in_c (by omega) (by omega)
  have hsh2 : ¬ gs_in (nI 2) 0 (nI 3) = 0 := gs_in_c (by omega) (by omega)
  have g0 : I 61 0 = S 3 := (hg 3 (by omega)).1
  have g1 : I 61 1 = Z 3 := (hg 3 (by omega)).2.1
  have k0 : I 59 0 = S 2 := (hg 2 (by omega)).1
  have k1 : I 59 1 = Z 2 := (hg 2 (by omega)).2.1
  obtain ⟨-, ⟨z, oz, oz24⟩, -⟩ := ho 3 (by omega)
  obtain ⟨-, ⟨y, oy, oy24⟩, -⟩ := ho 2 (by omega)
  have hneg := gh_S ho (j := 3) (by omega)
  have hneg2 := gh_S ho (j := 2) (by omega)
  generalize e : gs_copy S Z R (nI 3) p (nI 2) q c = g at hk
  unfold gs_copy at e
  rw [if_neg (fun h => h.elim hsh hsh2), show (nI 3).toNatClampNeg = 3 from nI_clamp (by omega)] at e
  try rw [show (nI 2).toNatClampNeg = 2 from nI_clamp (by omega)] at e
  have bad : ∀ x, (R, x) = g → K (some (.int x)) I (sx_run rw m ln) := by
    intro x h; subst h; exact hk I (fun _ _ => rfl) hg
  have b2 : (S 3 = -1 ∨ S 2 = -1) → K (some (.int (-1000000011))) I (sx_run rw m ln) := fun h => bad _ (by rw [if_pos (h.elim (fun q => Or.inl (hneg.mpr q)) (fun q => Or.inr (hneg2.mpr q)))] at e; exact e)
  refine sx_enter (by decide +kernel) (Nat.le_of_ble_eq_true rfl) (sx_go m91 100 rfl (fun VV CC hV hC => ?_))
  refine hC _ _ _ _ _ (c_isSheet1 ⟨fun (c1 : gs_in (nI 3) 0 (nI 3) = 0) => absurd c1 hsh, fun _ => hC _ _ _ _ _ (c_isSheet1 ⟨fun _ => ⟨3, ⟨rfl, by omega⟩, fun b (eb : some 61 = some b) => ?_, fun (eb : some 61 = none) => by cases eb⟩, fun (c1 : gs_in (nI 2) 0 (nI 3) = 0) => absurd c1 hsh2⟩)⟩)
  cases eb
  refine ⟨2, ⟨rfl, by omega⟩, fun b (eb : some 59 = some b) => ?_, fun (eb : some 59 = none) => by cases eb⟩
  cases eb
  refine ⟨fun (c2 : I 61 0 = -1) => b2 (Or.inl (g0.symm.trans c2)), fun (c2 : ¬ I 61 0 = -1) => ⟨fun (c3 : ¬ I 59 0 = -1) => ⟨fun (c4 : I 61 0 = I 59 0) => ?_, fun (c4 : ¬ I 61 0 = I 59 0) => bad _ ?_⟩, fun (c3 : I 59 0 = -1) => b2 (Or.inr (k0.symm.trans c3))⟩⟩
  · have c2 : ¬ S 3 = -1 := fun h => c2 (g0.trans h)
    have c3 : ¬ S 2 = -1 := fun h => c3 (k0.trans h)
    have c4 : S 3 = S 2 := g0.symm.trans (c4.trans k0)
    rw [if_neg (fun h => h.elim (fun q => c2 (hneg.mp q)) (fun q => c3 (hneg2.mp q))), if_neg (fun h => h c4)] at e
    have b3 : gs_cpBad p q c (Z 3) (Z 2) → K (some (.int (-1000000013))) I (sx_run rw m ln) := fun h => bad _ (by rw [if_pos h] at e; exact e)
    refine hC _ _ _ _ _ (c_hasPl_61 (g1.trans oz) oz24 (fun h => ⟨fun _ => b3 ?_, fun (q : ¬ nI 0 = 0) => absurd rfl q⟩) (fun h => ⟨fun (q : nI 1 = 0) => absurd q (by decide +kernel), fun _ => hC _ _ _ _ _ (c_hasPl_59 (k1.trans oy) oy24 (fun h2 => ⟨fun (q : ¬ nI 0 = 0) => absurd rfl q, fun _ => b3 ?_⟩) (fun h2 => ⟨fun _ => ?_, fun (q : nI 1 = 0) => absurd q (by decide +kernel)⟩))⟩))
    · rcases Decidable.not_not.mp h with h | h | h
      · exact Or.inl h
      · exact Or.inr (Or.inr (Or.inl h))
      · exact Or.inr (Or.inr (Or.inr (Or.inl (by rw [oz]; exact h))))
    · rcases Decidable.not_not.mp h2 with h | h | h
      · exact Or.inr (Or.inl h)
      · exact Or.inr (Or.inr (Or.inl h))
      · exact Or.inr (Or.inr (Or.inr (Or.inr (by rw [oy]; exact h))))
    · have nb : ¬ gs_cpBad p q c (Z 3) (Z 2) := by
        rintro (x | x | x | x | x)
        · exact h (Or.inl x)
        · exact h2 (Or.inl x)
        · exact h (Or.inr (Or.inl x))
        · exact h (Or.inr (Or.inr (by rw [← oz]; exact x)))
        · exact h2 (Or.inr (Or.inr (by rw [← oy]; exact x)))
      rw [if_neg nb] at e
      obtain ⟨p, rfl, hp⟩ := gs_nat (fun x => h (Or.inl x))
      obtain ⟨q, rfl, hq⟩ := gs_nat (fun x => h2 (Or.inl x))
      obtain ⟨c, rfl, hc⟩ := gs_nat (fun x => h (Or.inr (Or.inl x)))
      have hpz : p + c ≤ z := by
        refine Nat.le_of_not_lt (fun x => h (Or.inr (Or.inr ?_)))
        rw [nI_clamp (by omega), nI_clamp hp, nI_clamp hc]; exact x
      have hqy : q + c ≤ y := by
        refine Nat.le_of_not_lt (fun x => h2 (Or.inr (Or.inr ?_)))
        rw [nI_clamp (by omega), nI_clamp hq, nI_clamp hc]; exact x
      rw [nI_clamp hp, nI_clamp hq, nI_clamp hc] at e
      subst e
      refine ⟨c, p, q, ⟨rfl, rfl, rfl, by omega, by omega⟩, Nat.le_of_ble_eq_true rfl, ?_⟩
      exact hk _ (fun x hx => sx_up_ne (by omega)) (hg.cpy (a := 3) (b := 2) (by omega) (by omega) (by omega) (by omega))
  · have c2 : ¬ S 3 = -1 := fun h => c2 (g0.trans h)
    have c3 : ¬ S 2 = -1 := fun h => c3 (k0.trans h)
    have c4 : ¬ S 3 = S 2 := fun h => c4 (g0.trans (h.trans k0.symm))
    rw [if_neg (fun h => h.elim (fun q => c2 (hneg.mp q)) (fun q => c3 (hneg2.mp q))), if_pos c4] at e
    exact e
theorem c1_copy_61_61 {p q c : Int32} (hg : gh S Z R I) (ho : gh_ok S Z R) (hk : ∀ J, (∀ x, (x < 55 ∨ 62 < x) → J x = I x) → gh S Z (gs_copy S Z R (nI 3) p (nI 3) q c).1 J → K (some (.int (gs_copy S Z R (nI 3) p (nI 3) q c).2)) J (sx_run rw m ln)) : sx_C 91 (d + 3) [.ref 15, .int (nI 3), .int p, .int (nI 3), .int q, .int c] I (sx_run rw m ln) K := by
  have hsh : ¬ gs_in (nI 3) 0 (nI 3) = 0 := gs_in_c (by omega) (by omega)
  have hsh2 : ¬ gs_in (nI 3) 0 (nI 3) = 0 := gs_in_c (by omega) (by omega)
  have g0 : I 61 0 = S 3 := (hg 3 (by omega)).1
  have g1 : I 61 1 = Z 3 := (hg 3 (by omega)).2.1
  have k0 : I 61 0 = S 3 := (hg 3 (by omega)).1
  have k1 : I 61 1 = Z 3 := (hg 3 (by omega)).2.1
  obtain ⟨-, ⟨z, oz, oz24⟩, -⟩ := ho 3 (by omega)
  obtain ⟨-, ⟨y, oy, oy24⟩, -⟩ := ho 3 (by omega)
  have hneg := gh_S ho (j := 3) (by omega)
  have hneg2 := gh_S ho (j := 3) (by omega)
  generalize e : gs_copy S Z R (nI 3) p (nI 3) q c = g at hk
  unfold gs_copy at e
  rw [if_neg (fun h => h.elim hsh hsh2), show (nI 3).toNatClampNeg = 3 from nI_clamp (by omega)] at e
  try rw [show (nI 3).toNatClampNeg = 3 from nI_clamp (by omega)] at e
  have bad : ∀ x, (R, x) = g → K (some (.int x)) I (sx_run rw m ln) := by
    intro x h; subst h; exact hk I (fun _ _ => rfl) hg
  have b2 : (S 3 = -1 ∨ S 3 = -1) → K (some (.int (-1000000011))) I (sx_run rw m ln) := fun h => bad _ (by rw [if_pos (h.elim (fun q => Or.inl (hneg.mpr q)) (fun q => Or.inr (hneg2.mpr q)))] at e; exact e)
  refine sx_enter (by decide +kernel) (Nat.le_of_ble_eq_true rfl) (sx_go m91 100 rfl (fun VV CC hV hC => ?_))
  refine hC _ _ _ _ _ (c_isSheet1 ⟨fun (c1 : gs_in (nI 3) 0 (nI 3) = 0) => absurd c1 hsh, fun _ => hC _ _ _ _ _ (c_isSheet1 ⟨fun _ => ⟨3, ⟨rfl, by omega⟩, fun b (eb : some 61 = some b) => ?_, fun (eb : some 61 = none) => by cases eb⟩, fun (c1 : gs_in (nI 3) 0 (nI 3) = 0) => absurd c1 hsh2⟩)⟩)
  cases eb
  refine ⟨3, ⟨rfl, by omega⟩, fun b (eb : some 61 = some b) => ?_, fun (eb : some 61 = none) => by cases eb⟩
  cases eb
  refine ⟨fun (c2 : I 61 0 = -1) => b2 (Or.inl (g0.symm.trans c2)), fun (c2 : ¬ I 61 0 = -1) => ⟨fun (c3 : ¬ I 61 0 = -1) => ⟨fun (c4 : I 61 0 = I 61 0) => ?_, fun (c4 : ¬ I 61 0 = I 61 0) => bad _ ?_⟩, fun (c3 : I 61 0 = -1) => b2 (Or.inr (k0.symm.trans c3))⟩⟩
  · have c2 : ¬ S 3 = -1 := fun h => c2 (g0.trans h)
    have c3 : ¬ S 3 = -1 := fun h => c3 (k0.trans h)
    have c4 : S 3 = S 3 := g0.symm.trans (c4.trans k0)
    rw [if_neg (fun h => h.elim (fun q => c2 (hneg.mp q)) (fun q => c3 (hneg2.mp q))), if_neg (fun h => h c4)] at e
    have b3 : gs_cpBad p q c (Z 3) (Z 3) → K (some (.int (-1000000013))) I (sx_run rw m ln) := fun h => bad _ (by rw [if_pos h] at e; exact e)
    refine hC _ _ _ _ _ (c_hasPl_61 (g1.trans oz) oz24 (fun h => ⟨fun _ => b3 ?_, fun (q : ¬ nI 0 = 0) => absurd rfl q⟩) (fun h => ⟨fun (q : nI 1 = 0) => absurd q (by decide +kernel), fun _ => hC _ _ _ _ _ (c_hasPl_61 (k1.trans oy) oy24 (fun h2 => ⟨fun (q : ¬ nI 0 = 0) => absurd rfl q, fun _ => b3 ?_⟩) (fun h2 => ⟨fun _ => ?_, fun (q : nI 1 = 0) => absurd q (by decide +kernel)⟩))⟩))
    · rcases Decidable.not_not.mp h with h | h | h
      · exact Or.inl h
      · exact Or.inr (Or.inr (Or.inl h))
      · exact Or.inr (Or.inr (Or.inr (Or.inl (by rw [oz]; exact h))))
    · rcases Decidable.not_not.mp h2 with h | h | h
      · exact Or.inr (Or.inl h)
      · exact Or.inr (Or.inr (Or.inl h))
      · exact Or.inr (Or.inr (Or.inr (Or.inr (by rw [oy]; exact h))))
    · have nb : ¬ gs_cpBad p q c (Z 3) (Z 3) := by
        rintro (x | x | x | x | x)
        · exact h (Or.inl x)
        · exact h2 (Or.inl x)
        · exact h (Or.inr (Or.inl x))
        · exact h (Or.inr (Or.inr (by rw [← oz]; exact x)))
        · exact h2 (Or.inr (Or.inr (by rw [← oy]; exact x)))
      rw [if_neg nb] at e
      obtain ⟨p, rfl, hp⟩ := gs_nat (fun x => h (Or.inl x))
      obtain ⟨q, rfl, hq⟩ := gs_nat (fun x => h2 (Or.inl x))
      obtain ⟨c, rfl, hc⟩ := gs_nat (fun x => h (Or.inr (Or.inl x)))
      have hpz : p + c ≤ z := by
        refine Nat.le_of_not_lt (fun x => h (Or.inr (Or.inr ?_)))
        rw [nI_clamp (by omega), nI_clamp hp, nI_clamp hc]; exact x
      have hqy : q + c ≤ y := by
        refine Nat.le_of_not_lt (fun x => h2 (Or.inr (Or.inr ?_)))
        rw [nI_clamp (by omega), nI_clamp hq, nI_clamp hc]; exact x
      rw [nI_clamp hp, nI_clamp hq, nI_clamp hc] at e
      subst e
      refine ⟨c, p, q, ⟨rfl, rfl, rfl, by omega, by omega⟩, Nat.le_of_ble_eq_true rfl, ?_⟩
      exact hk _ (fun x hx => sx_up_ne (by omega)) (hg.cpy (a := 3) (b := 3) (by omega) (by omega) (by omega) (by omega))
  · have c2 : ¬ S 3 = -1 := fun h => c2 (g0.trans h)
    have c3 : ¬ S 3 = -1 := fun h => c3 (k0.trans h)
    have c4 : ¬ S 3 = S 3 := fun h => c4 (g0.trans (h.trans k0.symm))
    rw [if_neg (fun h => h.elim (fun q => c2 (hneg.mp q)) (fun q => c3 (hneg2.mp q))), if_pos c4] at e
    exact e
theorem c1_copy {a p b q c : Int32} (hg : gh S Z R I) (ho : gh_ok S Z R) (hk : ∀ J, (∀ x, (x < 55 ∨ 62 < x) → J x = I x) → gh S Z (gs_copy S Z R a p b q c).1 J → K (some (.int (gs_copy S Z R a p b q c).2)) J (sx_run rw m ln)) : sx_C 91 (d + 3) [.ref 15, .int a, .int p, .int b, .int q, .int c] I (sx_run rw m ln) K := by
  by_cases c1 : gs_in a 0 (nI 3) = 0
  · have e : gs_copy S Z R a p b q c = (R, -1000000001) := if_pos (Or.inl c1)
    rw [e] at hk
    refine sx_enter (by decide +kernel) (Nat.le_of_ble_eq_true rfl) (sx_go m91 100 rfl (fun VV CC hV hC => ?_))
    exact hC _ _ _ _ _ (c_isSheet1 ⟨fun _ => hk I (fun _ _ => rfl) hg, fun (q : ¬ gs_in a 0 (nI 3) = 0) => absurd c1 q⟩)
  · by_cases c2 : gs_in b 0 (nI 3) = 0
    · have e : gs_copy S Z R a p b q c = (R, -1000000001) := if_pos (Or.inr c2)
      rw [e] at hk
      refine sx_enter (by decide +kernel) (Nat.le_of_ble_eq_true rfl) (sx_go m91 100 rfl (fun VV CC hV hC => ?_))
      exact hC _ _ _ _ _ (c_isSheet1 ⟨fun (q : gs_in a 0 (nI 3) = 0) => absurd q c1, fun _ => hC _ _ _ _ _ (c_isSheet1 ⟨fun (q : ¬ gs_in b 0 (nI 3) = 0) => absurd c2 q, fun _ => hk I (fun _ _ => rfl) hg⟩)⟩)
    · obtain ⟨j, rfl, _, h3⟩ := gs_in_nat (a := 0) (by decide) c1 (by decide)
      obtain ⟨i, rfl, _, h4⟩ := gs_in_nat (a := 0) (by decide) c2 (by decide)
      have : j = 0 ∨ j = 1 ∨ j = 2 ∨ j = 3 := by omega
      have h5 : i = 0 ∨ i = 1 ∨ i = 2 ∨ i = 3 := by omega
      rcases this with rfl | rfl | rfl | rfl
      · rcases h5 with rfl | rfl | rfl | rfl
        · exact c1_copy_55_55 hg ho hk
        · exact c1_copy_55_57 hg ho hk
        · exact c1_copy_55_59 hg ho hk
        · exact c1_copy_55_61 hg ho hk
      · rcases h5 with rfl | rfl | rfl | rfl
        · exact c1_copy_57_55 hg ho hk
        · exact c1_copy_57_57 hg ho hk
        · exact c1_copy_57_59 hg ho hk
        · exact c1_copy_57_61 hg ho hk
      · rcases h5 with rfl | rfl | rfl | rfl
        · exact c1_copy_59_55 hg ho hk
        · exact c1_copy_59_57 hg ho hk
        · exact c1_copy_59_59 hg ho hk
        · exact c1_copy_59_61 hg ho hk
      · rcases h5 with rfl | rfl | rfl | rfl
        · exact c1_copy_61_55 hg ho hk
        · exact c1_copy_61_57 hg ho hk
        · exact c1_copy_61_59 hg ho hk
        · exact c1_copy_61_61 hg ho hk
theorem v_fill54 {x : Int32} (hk : ∀ J, (∀ a, a ≠ 54 → J a = I a) → (∀ i, i < 10 → J 54 i = x) → K none J (sx_run rw m ln)) :
    ∀ (r k : Nat) (J : sx_I), k + r = 10 → ((∀ a, a ≠ 54 → J a = I a) ∧ ∀ i, i < k → J 54 i = x) → sx_V 226 (d + 1) 0 0 K 5 [(0, .ref 54), (1, .int x), (2, .int (nI k)), (3, .int (nI 10))] [] J (sx_run rw m ln) := by
  refine sx_for 10 (fun J h => ?_) (fun k J hkc h ih => ?_)
  · refine sx_go m226 60 rfl (fun VV CC hV hC => ?_)
    exact ⟨fun _ => hk J h.1 h.2, fun (c1 : ¬ nI 10 ≤ nI 10) => absurd (Int32.le_refl _) c1⟩
  · refine sx_go m226 60 rfl (fun VV CC hV hC => ?_)
    refine ⟨fun (c1 : nI 10 ≤ nI k) => absurd c1 (nI_ge hkc (by omega)), fun _ => ⟨k, ⟨rfl, by omega⟩, hV _ _ _ _ _ _ _ ?_⟩⟩
    have := ih (sx_up J 54 (upd (J 54) k x)) ⟨fun a ha => by rw [sx_up_ne ha]; exact h.1 a ha, fun i hi => by
      rw [sx_up_same]
      by_cases e : i = k
      · subst e; exact pk_us
      · rw [pk_un e]; exact h.2 i (by omega)⟩
    rw [nI_succ k] at this
    exact this
theorem c_fill54 {x : Int32} (hk : ∀ J, (∀ a, a ≠ 54 → J a = I a) → (∀ i, i < 10 → J 54 i = x) → K none J (sx_run rw m ln)) : sx_C 226 (d + 1) [.ref 54, .int x] I (sx_run rw m ln) K := by
  refine sx_enter (by decide +kernel) (Nat.le_of_ble_eq_true rfl) (sx_go m226 60 rfl (fun VV CC hV hC => hV _ _ _ _ _ _ _ ?_))
  exact v_fill54 (d := d) hk 10 0 I (by omega) ⟨fun _ _ => rfl, fun i hi => absurd hi (Nat.not_lt_zero i)⟩
def gb_f54 (I J : sx_I) : Prop := ∀ a, ¬ (200 ≤ a ∧ (a - 200) % 3 = 2) → a ≠ 54 → ((a < 37 ∨ 45 < a) ∧ a ≠ 137) → J a = I a
theorem v1_sumIn_55 {n k z : Nat} {F : Nat → Int32} (hb : gb 37 s I) (hi : gs_inv s) (hn : s 0 = nI n) (hn10 : n ≤ 10) (hk24 : k < 24) (hR : I 56 k = R (24 * 0 + k)) (hnn : ¬ R (24 * 0 + k) = -1000000005) (hnum : gh_num (R (24 * 0 + k))) (hF : ∀ g, g < n → I 54 g = F g)
    (hk : ∀ J, (∀ a, a ≠ 54 → J a = I a) → (∀ g, g < n → J 54 g = F g + gs_off (R (24 * 0 + k)) (s (12 + 5 * g + 3))) → sx_V 110 (d + 2) 0 0 K 39 [(0, .ref 15), (1, .ref 55), (2, .int (nI k)), (3, .int (nI n))] [] J (sx_run rw m ln)) (hz : z = n) :
    ∀ (r g : Nat) (J : sx_I), g + r = n → ((∀ a, a ≠ 54 → J a = I a) ∧ (∀ q, q < g → J 54 q = F q + gs_off (R (24 * 0 + k)) (s (12 + 5 * q + 3))) ∧ ∀ q, g ≤ q → q < n → J 54 q = F q) → sx_V 110 (d + 2) 0 0 K 39 [(0, .ref 15), (1, .ref 55), (2, .int (nI k)), (3, .int (nI g))] [] J (sx_run rw m ln) := by
  refine sx_for n (fun J h => hk J h.1 h.2.1) (fun g J hgc h ih => ?_)
  obtain ⟨h1, h2, h3⟩ := h
  have e37 : J 37 1 = nI n := by rw [h1 37 (by omega)]; exact hb.1.1.trans hn
  refine sx_go m110 100 rfl (fun VV CC hV hC => ?_)
  refine ⟨fun (c1 : J 37 1 ≤ nI g) => ?_, fun _ => ⟨g, ⟨rfl, by omega⟩, g, ⟨rfl, by omega⟩, k, ⟨rfl, by omega⟩, hC _ _ _ _ _ (c_abs ⟨g, ⟨rfl, by omega⟩, hV _ _ _ _ _ _ _ ?_⟩)⟩⟩
  · exfalso; rw [e37] at c1; exact nI_ge hgc (by omega) c1
  · have e41 : J 41 g = s (12 + 5 * g + 3) := by rw [h1 41 (by omega)]; exact gb_doubt_37 hb (by omega)
    have eR : J 56 k = R (24 * 0 + k) := by rw [h1 56 (by omega)]; exact hR
    rw [e41, eR, h3 g (Nat.le_refl g) hgc, gs_abs_off2 ((hi.2 g (by omega)).2.2.2.1) (hnum.resolve_left hnn)]
    have := ih (sx_up J 54 (upd (J 54) g (F g + gs_off (R (24 * 0 + k)) (s (12 + 5 * g + 3))))) ⟨fun a ha => by rw [sx_up_ne ha]; exact h1 a ha, fun q hq => ?_, fun q hq hq2 => ?_⟩
    · rw [nI_succ g] at this
      exact this
    · rw [sx_up_same]
      by_cases e : q = g
      · subst e; exact pk_us
      · rw [pk_un e]; exact h2 q (by omega)
    · rw [sx_up_same, pk_un (by omega)]; exact h3 q (by omega) hq2
theorem v1_sum_55 {n t0 z : Nat} (hi : gs_inv s) (htx : gb_tx I (rw 37) m ln s) (hn : s 0 = nI n) (hn10 : n ≤ 10) (hnt : s 2 = nI t0) (ht0 : t0 ≤ 9999) (hz : I 55 1 = nI z) (hz24 : z ≤ 24) (hg : ∀ i, i < 24 → I 56 i = R (24 * 0 + i)) (ho : ∀ i, i < 24 → gh_num (R (24 * 0 + i)))
    (hk : ∀ J, gb_f54 I J → (∀ g, g < n → J 54 g = gs_offBy s R 0 z g) → K none J (sx_run rw m ln)) :
    ∀ (r k : Nat) (J : sx_I), k + r = z → (gb_f54 I J ∧ gb 37 (gs_many k s) J ∧ ∀ g, g < n → J 54 g = gs_sum (gs_offF s R 0 g) k) → sx_V 110 (d + 6) 0 0 K 21 [(0, .ref 15), (1, .ref 55), (2, .int (nI k))] [] J (sx_run rw m ln) := by
  refine sx_for z (fun J h => ?_) (fun k J hkc h ih => ?_)
  · obtain ⟨h1, h2, h3⟩ := h
    refine sx_go m110 100 rfl (fun VV CC hV hC => ?_)
    refine ⟨fun _ => hk J h1 h3, fun (c1 : ¬ J 55 1 ≤ nI z) => ?_⟩
    exfalso; rw [h1 55 (by omega) (by omega) (by omega), hz] at c1; exact c1 (Int32.le_refl _)
  · obtain ⟨h1, h2, h3⟩ := h
    have hl := gs_lo.many hn hn10 k
    have eR : J 56 k = R (24 * 0 + k) := by rw [h1 56 (by omega) (by omega) (by omega)]; exact hg k (by omega)
    have pass : ∀ (J2 : sx_I) (KK : sx_K), gb_f54 I J2 → gb 37 (gs_many k s) J2 → (∀ g, g < n → J2 54 g = gs_sum (gs_offF s R 0 g) (k + 1)) → (∀ J3 x, sx_V 110 (d + 6) 0 0 K 21 [(0, .ref 15), (1, .ref 55), (2, .int (nI k + nI 1))] [] J3 (sx_run rw m ln) → KK (some (.int x)) J3 (sx_run rw m ln)) → sx_C 19 (d + 5) [.ref 37] J2 (sx_run rw m ln) KK := by
      intro J2 KK f2 b2 e2 hKK
      refine c_pass_37 b2 (hi.many k) (htx.lo (fun a ha hc => f2 a (by omega) (by omega) (by omega)) hl) (gs_many_2 hnt k) (by omega) (fun J3 f3 b3 => hKK J3 _ ?_)
      have := ih J3 ⟨fun a a1 a2 a3 => (f3 a a1 a3).trans (f2 a a1 a2 a3), b3, fun g hg2 => by rw [f3 54 (by omega) (by omega)]; exact e2 g hg2⟩
      rw [nI_succ k] at this
      exact this
    refine sx_go m110 100 rfl (fun VV CC hV hC => ?_)
    refine ⟨fun (c1 : J 55 1 ≤ nI k) => ?_, fun _ => hC _ _ _ _ _ (c_isNum_55 rfl (by omega) (fun c2 => ⟨fun _ => hC _ _ _ _ _ (pass J _ h1 h2 ?_ (fun J3 x hv => hV _ _ _ _ _ _ _ hv)), fun (q : ¬ nI 0 = 0) => absurd rfl q⟩) (fun c2 => ⟨fun (q : nI 1 = 0) => absurd q (by decide +kernel), fun _ => hV _ _ _ _ _ _ _ ?_⟩))⟩
    · exfalso; rw [h1 55 (by omega) (by omega) (by omega), hz] at c1; exact nI_ge hkc (by omega) c1
    · intro g hg2
      rw [eR] at c2
      rw [h3 g hg2, gs_sum, show gs_offF s R 0 g k = 0 from if_pos c2, Int32.add_zero]
    · rw [eR] at c2
      refine v1_sumIn_55 (d := d + 4) (z := n) (F := fun g => gs_sum (gs_offF s R 0 g) k) h2 (hi.many k) (hl.1.trans hn) hn10 (by omega) eR c2 (ho k (by omega)) h3 (fun J2 f2 e2 => ?_) rfl n 0 J (by omega) ⟨fun _ _ => rfl, fun q hq => absurd hq (Nat.not_lt_zero q), fun q _ hq => h3 q hq⟩
      have b2 : gb 37 (gs_many k s) J2 := by
        obtain ⟨⟨q1, q2, q3, q4⟩, q5, q6, q7, q8⟩ := h2
        exact ⟨⟨by rw [f2 _ (by omega)]; exact q1, by rw [f2 _ (by omega)]; exact q2, by rw [f2 _ (by omega)]; exact q3, by rw [f2 _ (by omega)]; exact q4⟩, fun w hw k hk => by rw [f2 _ (by omega)]; exact q5 w hw k hk, fun w hw => by rw [f2 _ (by omega)]; exact q6 w hw, fun w hw => by rw [f2 _ (by omega)]; exact q7 w hw, fun w hw => by rw [f2 _ (by omega)]; exact q8 w hw⟩
      refine sx_go m110 100 rfl (fun VV CC hV hC => ?_)
      refine ⟨fun _ => hC _ _ _ _ _ (pass J2 _ (fun a a1 a2 a3 => (f2 a a2).trans (h1 a a1 a2 a3)) b2 ?_ (fun J3 x hv => hV _ _ _ _ _ _ _ hv)), fun (c1 : ¬ J2 37 1 ≤ nI n) => ?_⟩
      · intro g hg2
        rw [e2 g hg2, gs_sum, show gs_offF s R 0 g k = _ from if_neg c2]
      · exfalso; rw [b2.1.1, hl.1, hn] at c1; exact c1 (Int32.le_refl _)
theorem c_sum_55 {n t0 z : Nat} (hb : gb 19 s I) (hi : gs_inv s) (htx : gb_tx I (rw 19) m ln s) (hn : s 0 = nI n) (hn10 : n ≤ 10) (hnt : s 2 = nI t0) (ht0 : t0 ≤ 9999) (hz : I 55 1 = nI z) (hz24 : z ≤ 24) (hg : ∀ i, i < 24 → I 56 i = R (24 * 0 + i)) (ho : ∀ i, i < 24 → gh_num (R (24 * 0 + i)))
    (hk : ∀ J, gb_f54 I J → (∀ g, g < n → J 54 g = gs_offBy s R 0 z g) → K none J (sx_run (gb_cp rw 37 19 14) m ln)) : sx_C 110 (d + 6) [.ref 15, .ref 55] I (sx_run rw m ln) K := by
  refine sx_enter (by decide +kernel) (Nat.le_of_ble_eq_true rfl) (sx_go m110 100 rfl (fun VV CC hV hC => ?_))
  refine hC _ _ _ _ _ (c_fill54 (fun J1 f1 e1 => hC _ _ _ _ _ (c_become_37_19 (s := s) ?_ htx.ro (fun J2 f2 b2 => hV _ _ _ _ _ _ _ ?_))))
  · obtain ⟨⟨q1, q2, q3, q4⟩, q5, q6, q7, q8⟩ := hb
    exact ⟨⟨by rw [f1 _ (by omega)]; exact q1, by rw [f1 _ (by omega)]; exact q2, by rw [f1 _ (by omega)]; exact q3, by rw [f1 _ (by omega)]; exact q4⟩, fun w hw k hk => by rw [f1 _ (by omega)]; exact q5 w hw k hk, fun w hw => by rw [f1 _ (by omega)]; exact q6 w hw, fun w hw => by rw [f1 _ (by omega)]; exact q7 w hw, fun w hw => by rw [f1 _ (by omega)]; exact q8 w hw⟩
  · refine v1_sum_55 (d := d) (I := I) hi (gb_tx.cp (rw := rw) (S := 19) 37 htx) hn hn10 hnt ht0 hz hz24 hg ho hk z 0 J2 (by omega) ⟨fun a a1 a2 a3 => (f2 a a1 a3).trans (f1 a a2), b2, fun g hg2 => ?_⟩
    rw [f2 54 (by omega) (by omega)]
    exact e1 g (by omega)
theorem v1_sumIn_57 {n k z : Nat} {F : Nat → Int32} (hb : gb 37 s I) (hi : gs_inv s) (hn : s 0 = nI n) (hn10 : n ≤ 10) (hk24 : k < 24) (hR : I 58 k = R (24 * 1 + k)) (hnn : ¬ R (24 * 1 + k) = -1000000005) (hnum : gh_num (R (24 * 1 + k))) (hF : ∀ g, g < n → I 54 g = F g)
    (hk : ∀ J, (∀ a, a ≠ 54 → J a = I a) → (∀ g, g < n → J 54 g = F g + gs_off (R (24 * 1 + k)) (s (12 + 5 * g + 3))) → sx_V 110 (d + 2) 0 0 K 39 [(0, .ref 15), (1, .ref 57), (2, .int (nI k)), (3, .int (nI n))] [] J (sx_run rw m ln)) (hz : z = n) :
    ∀ (r g : Nat) (J : sx_I), g + r = n → ((∀ a, a ≠ 54 → J a = I a) ∧ (∀ q, q < g → J 54 q = F q + gs_off (R (24 * 1 + k)) (s (12 + 5 * q + 3))) ∧ ∀ q, g ≤ q → q < n → J 54 q = F q) → sx_V 110 (d + 2) 0 0 K 39 [(0, .ref 15), (1, .ref 57), (2, .int (nI k)), (3, .int (nI g))] [] J (sx_run rw m ln) := by
  refine sx_for n (fun J h => hk J h.1 h.2.1) (fun g J hgc h ih => ?_)
  obtain ⟨h1, h2, h3⟩ := h
  have e37 : J 37 1 = nI n := by rw [h1 37 (by omega)]; exact hb.1.1.trans hn
  refine sx_go m110 100 rfl (fun VV CC hV hC => ?_)
  refine ⟨fun (c1 : J 37 1 ≤ nI g) => ?_, fun _ => ⟨g, ⟨rfl, by omega⟩, g, ⟨rfl, by omega⟩, k, ⟨rfl, by omega⟩, hC _ _ _ _ _ (c_abs ⟨g, ⟨rfl, by omega⟩, hV _ _ _ _ _ _ _ ?_⟩)⟩⟩
  · exfalso; rw [e37] at c1; exact nI_ge hgc (by omega) c1
  · have e41 : J 41 g = s (12 + 5 * g + 3) := by rw [h1 41 (by omega)]; exact gb_doubt_37 hb (by omega)
    have eR : J 58 k = R (24 * 1 + k) := by rw [h1 58 (by omega)]; exact hR
    rw [e41, eR, h3 g (Nat.le_refl g) hgc, gs_abs_off2 ((hi.2 g (by omega)).2.2.2.1) (hnum.resolve_left hnn)]
    have := ih (sx_up J 54 (upd (J 54) g (F g + gs_off (R (24 * 1 + k)) (s (12 + 5 * g + 3))))) ⟨fun a ha => by rw [sx_up_ne ha]; exact h1 a ha, fun q hq => ?_, fun q hq hq2 => ?_⟩
    · rw [nI_succ g] at this
      exact this
    · rw [sx_up_same]
      by_cases e : q = g
      · subst e; exact pk_us
      · rw [pk_un e]; exact h2 q (by omega)
    · rw [sx_up_same, pk_un (by omega)]; exact h3 q (by omega) hq2
theorem v1_sum_57 {n t0 z : Nat} (hi : gs_inv s) (htx : gb_tx I (rw 37) m ln s) (hn : s 0 = nI n) (hn10 : n ≤ 10) (hnt : s 2 = nI t0) (ht0 : t0 ≤ 9999) (hz : I 57 1 = nI z) (hz24 : z ≤ 24) (hg : ∀ i, i < 24 → I 58 i = R (24 * 1 + i)) (ho : ∀ i, i < 24 → gh_num (R (24 * 1 + i)))
    (hk : ∀ J, gb_f54 I J → (∀ g, g < n → J 54 g = gs_offBy s R 1 z g) → K none J (sx_run rw m ln)) :
    ∀ (r k : Nat) (J : sx_I), k + r = z → (gb_f54 I J ∧ gb 37 (gs_many k s) J ∧ ∀ g, g < n → J 54 g = gs_sum (gs_offF s R 1 g) k) → sx_V 110 (d + 6) 0 0 K 21 [(0, .ref 15), (1, .ref 57), (2, .int (nI k))] [] J (sx_run rw m ln) := by
  refine sx_for z (fun J h => ?_) (fun k J hkc h ih => ?_)
  · obtain ⟨h1, h2, h3⟩ := h
    refine sx_go m110 100 rfl (fun VV CC hV hC => ?_)
    refine ⟨fun _ => hk J h1 h3, fun (c1 : ¬ J 57 1 ≤ nI z) => ?_⟩
    exfalso; rw [h1 57 (by omega) (by omega) (by omega), hz] at c1; exact c1 (Int32.le_refl _)
  · obtain ⟨h1, h2, h3⟩ := h
    have hl := gs_lo.many hn hn10 k
    have eR : J 58 k = R (24 * 1 + k) := by rw [h1 58 (by omega) (by omega) (by omega)]; exact hg k (by omega)
    have pass : ∀ (J2 : sx_I) (KK : sx_K), gb_f54 I J2 → gb 37 (gs_many k s) J2 → (∀ g, g < n → J2 54 g = gs_sum (gs_offF s R 1 g) (k + 1)) → (∀ J3 x, sx_V 110 (d + 6) 0 0 K 21 [(0, .ref 15), (1, .ref 57), (2, .int (nI k + nI 1))] [] J3 (sx_run rw m ln) → KK (some (.int x)) J3 (sx_run rw m ln)) → sx_C 19 (d + 5) [.ref 37] J2 (sx_run rw m ln) KK := by
      intro J2 KK f2 b2 e2 hKK
      refine c_pass_37 b2 (hi.many k) (htx.lo (fun a ha hc => f2 a (by omega) (by omega) (by omega)) hl) (gs_many_2 hnt k) (by omega) (fun J3 f3 b3 => hKK J3 _ ?_)
      have := ih J3 ⟨fun a a1 a2 a3 => (f3 a a1 a3).trans (f2 a a1 a2 a3), b3, fun g hg2 => by rw [f3 54 (by omega) (by omega)]; exact e2 g hg2⟩
      rw [nI_succ k] at this
      exact this
    refine sx_go m110 100 rfl (fun VV CC hV hC => ?_)
    refine ⟨fun (c1 : J 57 1 ≤ nI k) => ?_, fun _ => hC _ _ _ _ _ (c_isNum_57 rfl (by omega) (fun c2 => ⟨fun _ => hC _ _ _ _ _ (pass J _ h1 h2 ?_ (fun J3 x hv => hV _ _ _ _ _ _ _ hv)), fun (q : ¬ nI 0 = 0) => absurd rfl q⟩) (fun c2 => ⟨fun (q : nI 1 = 0) => absurd q (by decide +kernel), fun _ => hV _ _ _ _ _ _ _ ?_⟩))⟩
    · exfalso; rw [h1 57 (by omega) (by omega) (by omega), hz] at c1; exact nI_ge hkc (by omega) c1
    · intro g hg2
      rw [eR] at c2
      rw [h3 g hg2, gs_sum, show gs_offF s R 1 g k = 0 from if_pos c2, Int32.add_zero]
    · rw [eR] at c2
      refine v1_sumIn_57 (d := d + 4) (z := n) (F := fun g => gs_sum (gs_offF s R 1 g) k) h2 (hi.many k) (hl.1.trans hn) hn10 (by omega) eR c2 (ho k (by omega)) h3 (fun J2 f2 e2 => ?_) rfl n 0 J (by omega) ⟨fun _ _ => rfl, fun q hq => absurd hq (Nat.not_lt_zero q), fun q _ hq => h3 q hq⟩
      have b2 : gb 37 (gs_many k s) J2 := by
        obtain ⟨⟨q1, q2, q3, q4⟩, q5, q6, q7, q8⟩ := h2
        exact ⟨⟨by rw [f2 _ (by omega)]; exact q1, by rw [f2 _ (by omega)]; exact q2, by rw [f2 _ (by omega)]; exact q3, by rw [f2 _ (by omega)]; exact q4⟩, fun w hw k hk => by rw [f2 _ (by omega)]; exact q5 w hw k hk, fun w hw => by rw [f2 _ (by omega)]; exact q6 w hw, fun w hw => by rw [f2 _ (by omega)]; exact q7 w hw, fun w hw => by rw [f2 _ (by omega)]; exact q8 w hw⟩
      refine sx_go m110 100 rfl (fun VV CC hV hC => ?_)
      refine ⟨fun _ => hC _ _ _ _ _ (pass J2 _ (fun a a1 a2 a3 => (f2 a a2).trans (h1 a a1 a2 a3)) b2 ?_ (fun J3 x hv => hV _ _ _ _ _ _ _ hv)), fun (c1 : ¬ J2 37 1 ≤ nI n) => ?_⟩
      · intro g hg2
        rw [e2 g hg2, gs_sum, show gs_offF s R 1 g k = _ from if_neg c2]
      · exfalso; rw [b2.1.1, hl.1, hn] at c1; exact c1 (Int32.le_refl _)
theorem c_sum_57 {n t0 z : Nat} (hb : gb 19 s I) (hi : gs_inv s) (htx : gb_tx I (rw 19) m ln s) (hn : s 0 = nI n) (hn10 : n ≤ 10) (hnt : s 2 = nI t0) (ht0 : t0 ≤ 9999) (hz : I 57 1 = nI z) (hz24 : z ≤ 24) (hg : ∀ i, i < 24 → I 58 i = R (24 * 1 + i)) (ho : ∀ i, i < 24 → gh_num (R (24 * 1 + i)))
    (hk : ∀ J, gb_f54 I J → (∀ g, g < n → J 54 g = gs_offBy s R 1 z g) → K none J (sx_run (gb_cp rw 37 19 14) m ln)) : sx_C 110 (d + 6) [.ref 15, .ref 57] I (sx_run rw m ln) K := by
  refine sx_enter (by decide +kernel) (Nat.le_of_ble_eq_true rfl) (sx_go m110 100 rfl (fun VV CC hV hC => ?_))
  refine hC _ _ _ _ _ (c_fill54 (fun J1 f1 e1 => hC _ _ _ _ _ (c_become_37_19 (s := s) ?_ htx.ro (fun J2 f2 b2 => hV _ _ _ _ _ _ _ ?_))))
  · obtain ⟨⟨q1, q2, q3, q4⟩, q5, q6, q7, q8⟩ := hb
    exact ⟨⟨by rw [f1 _ (by omega)]; exact q1, by rw [f1 _ (by omega)]; exact q2, by rw [f1 _ (by omega)]; exact q3, by rw [f1 _ (by omega)]; exact q4⟩, fun w hw k hk => by rw [f1 _ (by omega)]; exact q5 w hw k hk, fun w hw => by rw [f1 _ (by omega)]; exact q6 w hw, fun w hw => by rw [f1 _ (by omega)]; exact q7 w hw, fun w hw => by rw [f1 _ (by omega)]; exact q8 w hw⟩
  · refine v1_sum_57 (d := d) (I := I) hi (gb_tx.cp (rw := rw) (S := 19) 37 htx) hn hn10 hnt ht0 hz hz24 hg ho hk z 0 J2 (by omega) ⟨fun a a1 a2 a3 => (f2 a a1 a3).trans (f1 a a2), b2, fun g hg2 => ?_⟩
    rw [f2 54 (by omega) (by omega)]
    exact e1 g (by omega)
theorem v1_sumIn_59 {n k z : Nat} {F : Nat → Int32} (hb : gb 37 s I) (hi : gs_inv s) (hn : s 0 = nI n) (hn10 : n ≤ 10) (hk24 : k < 24) (hR : I 60 k = R (24 * 2 + k)) (hnn : ¬ R (24 * 2 + k) = -1000000005) (hnum : gh_num (R (24 * 2 + k))) (hF : ∀ g, g < n → I 54 g = F g)
    (hk : ∀ J, (∀ a, a ≠ 54 → J a = I a) → (∀ g, g < n → J 54 g = F g + gs_off (R (24 * 2 + k)) (s (12 + 5 * g + 3))) → sx_V 110 (d + 2) 0 0 K 39 [(0, .ref 15), (1, .ref 59), (2, .int (nI k)), (3, .int (nI n))] [] J (sx_run rw m ln)) (hz : z = n) :
    ∀ (r g : Nat) (J : sx_I), g + r = n → ((∀ a, a ≠ 54 → J a = I a) ∧ (∀ q, q < g → J 54 q = F q + gs_off (R (24 * 2 + k)) (s (12 + 5 * q + 3))) ∧ ∀ q, g ≤ q → q < n → J 54 q = F q) → sx_V 110 (d + 2) 0 0 K 39 [(0, .ref 15), (1, .ref 59), (2, .int (nI k)), (3, .int (nI g))] [] J (sx_run rw m ln) := by
  refine sx_for n (fun J h => hk J h.1 h.2.1) (fun g J hgc h ih => ?_)
  obtain ⟨h1, h2, h3⟩ := h
  have e37 : J 37 1 = nI n := by rw [h1 37 (by omega)]; exact hb.1.1.trans hn
  refine sx_go m110 100 rfl (fun VV CC hV hC => ?_)
  refine ⟨fun (c1 : J 37 1 ≤ nI g) => ?_, fun _ => ⟨g, ⟨rfl, by omega⟩, g, ⟨rfl, by omega⟩, k, ⟨rfl, by omega⟩, hC _ _ _ _ _ (c_abs ⟨g, ⟨rfl, by omega⟩, hV _ _ _ _ _ _ _ ?_⟩)⟩⟩
  · exfalso; rw [e37] at c1; exact nI_ge hgc (by omega) c1
  · have e41 : J 41 g = s (12 + 5 * g + 3) := by rw [h1 41 (by omega)]; exact gb_doubt_37 hb (by omega)
    have eR : J 60 k = R (24 * 2 + k) := by rw [h1 60 (by omega)]; exact hR
    rw [e41, eR, h3 g (Nat.le_refl g) hgc, gs_abs_off2 ((hi.2 g (by omega)).2.2.2.1) (hnum.resolve_left hnn)]
    have := ih (sx_up J 54 (upd (J 54) g (F g + gs_off (R (24 * 2 + k)) (s (12 + 5 * g + 3))))) ⟨fun a ha => by rw [sx_up_ne ha]; exact h1 a ha, fun q hq => ?_, fun q hq hq2 => ?_⟩
    · rw [nI_succ g] at this
      exact this
    · rw [sx_up_same]
      by_cases e : q = g
      · subst e; exact pk_us
      · rw [pk_un e]; exact h2 q (by omega)
    · rw [sx_up_same, pk_un (by omega)]; exact h3 q (by omega) hq2
theorem v1_sum_59 {n t0 z : Nat} (hi : gs_inv s) (htx : gb_tx I (rw 37) m ln s) (hn : s 0 = nI n) (hn10 : n ≤ 10) (hnt : s 2 = nI t0) (ht0 : t0 ≤ 9999) (hz : I 59 1 = nI z) (hz24 : z ≤ 24) (hg : ∀ i, i < 24 → I 60 i = R (24 * 2 + i)) (ho : ∀ i, i < 24 → gh_num (R (24 * 2 + i)))
    (hk : ∀ J, gb_f54 I J → (∀ g, g < n → J 54 g = gs_offBy s R 2 z g) → K none J (sx_run rw m ln)) :
    ∀ (r k : Nat) (J : sx_I), k + r = z → (gb_f54 I J ∧ gb 37 (gs_many k s) J ∧ ∀ g, g < n → J 54 g = gs_sum (gs_offF s R 2 g) k) → sx_V 110 (d + 6) 0 0 K 21 [(0, .ref 15), (1, .ref 59), (2, .int (nI k))] [] J (sx_run rw m ln) := by
  refine sx_for z (fun J h => ?_) (fun k J hkc h ih => ?_)
  · obtain ⟨h1, h2, h3⟩ := h
    refine sx_go m110 100 rfl (fun VV CC hV hC => ?_)
    refine ⟨fun _ => hk J h1 h3, fun (c1 : ¬ J 59 1 ≤ nI z) => ?_⟩
    exfalso; rw [h1 59 (by omega) (by omega) (by omega), hz] at c1; exact c1 (Int32.le_refl _)
  · obtain ⟨h1, h2, h3⟩ := h
    have hl := gs_lo.many hn hn10 k
    have eR : J 60 k = R (24 * 2 + k) := by rw [h1 60 (by omega) (by omega) (by omega)]; exact hg k (by omega)
    have pass : ∀ (J2 : sx_I) (KK : sx_K), gb_f54 I J2 → gb 37 (gs_many k s) J2 → (∀ g, g < n → J2 54 g = gs_sum (gs_offF s R 2 g) (k + 1)) → (∀ J3 x, sx_V 110 (d + 6) 0 0 K 21 [(0, .ref 15), (1, .ref 59), (2, .int (nI k + nI 1))] [] J3 (sx_run rw m ln) → KK (some (.int x)) J3 (sx_run rw m ln)) → sx_C 19 (d + 5) [.ref 37] J2 (sx_run rw m ln) KK := by
      intro J2 KK f2 b2 e2 hKK
      refine c_pass_37 b2 (hi.many k) (htx.lo (fun a ha hc => f2 a (by omega) (by omega) (by omega)) hl) (gs_many_2 hnt k) (by omega) (fun J3 f3 b3 => hKK J3 _ ?_)
      have := ih J3 ⟨fun a a1 a2 a3 => (f3 a a1 a3).trans (f2 a a1 a2 a3), b3, fun g hg2 => by rw [f3 54 (by omega) (by omega)]; exact e2 g hg2⟩
      rw [nI_succ k] at this
      exact this
    refine sx_go m110 100 rfl (fun VV CC hV hC => ?_)
    refine ⟨fun (c1 : J 59 1 ≤ nI k) => ?_, fun _ => hC _ _ _ _ _ (c_isNum_59 rfl (by omega) (fun c2 => ⟨fun _ => hC _ _ _ _ _ (pass J _ h1 h2 ?_ (fun J3 x hv => hV _ _ _ _ _ _ _ hv)), fun (q : ¬ nI 0 = 0) => absurd rfl q⟩) (fun c2 => ⟨fun (q : nI 1 = 0) => absurd q (by decide +kernel), fun _ => hV _ _ _ _ _ _ _ ?_⟩))⟩
    · exfalso; rw [h1 59 (by omega) (by omega) (by omega), hz] at c1; exact nI_ge hkc (by omega) c1
    · intro g hg2
      rw [eR] at c2
      rw [h3 g hg2, gs_sum, show gs_offF s R 2 g k = 0 from if_pos c2, Int32.add_zero]
    · rw [eR] at c2
      refine v1_sumIn_59 (d := d + 4) (z := n) (F := fun g => gs_sum (gs_offF s R 2 g) k) h2 (hi.many k) (hl.1.trans hn) hn10 (by omega) eR c2 (ho k (by omega)) h3 (fun J2 f2 e2 => ?_) rfl n 0 J (by omega) ⟨fun _ _ => rfl, fun q hq => absurd hq (Nat.not_lt_zero q), fun q _ hq => h3 q hq⟩
      have b2 : gb 37 (gs_many k s) J2 := by
        obtain ⟨⟨q1, q2, q3, q4⟩, q5, q6, q7, q8⟩ := h2
        exact ⟨⟨by rw [f2 _ (by omega)]; exact q1, by rw [f2 _ (by omega)]; exact q2, by rw [f2 _ (by omega)]; exact q3, by rw [f2 _ (by omega)]; exact q4⟩, fun w hw k hk => by rw [f2 _ (by omega)]; exact q5 w hw k hk, fun w hw => by rw [f2 _ (by omega)]; exact q6 w hw, fun w hw => by rw [f2 _ (by omega)]; exact q7 w hw, fun w hw => by rw [f2 _ (by omega)]; exact q8 w hw⟩
      refine sx_go m110 100 rfl (fun VV CC hV hC => ?_)
      refine ⟨fun _ => hC _ _ _ _ _ (pass J2 _ (fun a a1 a2 a3 => (f2 a a2).trans (h1 a a1 a2 a3)) b2 ?_ (fun J3 x hv => hV _ _ _ _ _ _ _ hv)), fun (c1 : ¬ J2 37 1 ≤ nI n) => ?_⟩
      · intro g hg2
        rw [e2 g hg2, gs_sum, show gs_offF s R 2 g k = _ from if_neg c2]
      · exfalso; rw [b2.1.1, hl.1, hn] at c1; exact c1 (Int32.le_refl _)
theorem c_sum_59 {n t0 z : Nat} (hb : gb 19 s I) (hi : gs_inv s) (htx : gb_tx I (rw 19) m ln s) (hn : s 0 = nI n) (hn10 : n ≤ 10) (hnt : s 2 = nI t0) (ht0 : t0 ≤ 9999) (hz : I 59 1 = nI z) (hz24 : z ≤ 24) (hg : ∀ i, i < 24 → I 60 i = R (24 * 2 + i)) (ho : ∀ i, i < 24 → gh_num (R (24 * 2 + i)))
    (hk : ∀ J, gb_f54 I J → (∀ g, g < n → J 54 g = gs_offBy s R 2 z g) → K none J (sx_run (gb_cp rw 37 19 14) m ln)) : sx_C 110 (d + 6) [.ref 15, .ref 59] I (sx_run rw m ln) K := by
  refine sx_enter (by decide +kernel) (Nat.le_of_ble_eq_true rfl) (sx_go m110 100 rfl (fun VV CC hV hC => ?_))
  refine hC _ _ _ _ _ (c_fill54 (fun J1 f1 e1 => hC _ _ _ _ _ (c_become_37_19 (s := s) ?_ htx.ro (fun J2 f2 b2 => hV _ _ _ _ _ _ _ ?_))))
  · obtain ⟨⟨q1, q2, q3, q4⟩, q5, q6, q7, q8⟩ := hb
    exact ⟨⟨by rw [f1 _ (by omega)]; exact q1, by rw [f1 _ (by omega)]; exact q2, by rw [f1 _ (by omega)]; exact q3, by rw [f1 _ (by omega)]; exact q4⟩, fun w hw k hk => by rw [f1 _ (by omega)]; exact q5 w hw k hk, fun w hw => by rw [f1 _ (by omega)]; exact q6 w hw, fun w hw => by rw [f1 _ (by omega)]; exact q7 w hw, fun w hw => by rw [f1 _ (by omega)]; exact q8 w hw⟩
  · refine v1_sum_59 (d := d) (I := I) hi (gb_tx.cp (rw := rw) (S := 19) 37 htx) hn hn10 hnt ht0 hz hz24 hg ho hk z 0 J2 (by omega) ⟨fun a a1 a2 a3 => (f2 a a1 a3).trans (f1 a a2), b2, fun g hg2 => ?_⟩
    rw [f2 54 (by omega) (by omega)]
    exact e1 g (by omega)
theorem v1_sumIn_61 {n k z : Nat} {F : Nat → Int32} (hb : gb 37 s I) (hi : gs_inv s) (hn : s 0 = nI n) (hn10 : n ≤ 10) (hk24 : k < 24) (hR : I 62 k = R (24 * 3 + k)) (hnn : ¬ R (24 * 3 + k) = -1000000005) (hnum : gh_num (R (24 * 3 + k))) (hF : ∀ g, g < n → I 54 g = F g)
    (hk : ∀ J, (∀ a, a ≠ 54 → J a = I a) → (∀ g, g < n → J 54 g = F g + gs_off (R (24 * 3 + k)) (s (12 + 5 * g + 3))) → sx_V 110 (d + 2) 0 0 K 39 [(0, .ref 15), (1, .ref 61), (2, .int (nI k)), (3, .int (nI n))] [] J (sx_run rw m ln)) (hz : z = n) :
    ∀ (r g : Nat) (J : sx_I), g + r = n → ((∀ a, a ≠ 54 → J a = I a) ∧ (∀ q, q < g → J 54 q = F q + gs_off (R (24 * 3 + k)) (s (12 + 5 * q + 3))) ∧ ∀ q, g ≤ q → q < n → J 54 q = F q) → sx_V 110 (d + 2) 0 0 K 39 [(0, .ref 15), (1, .ref 61), (2, .int (nI k)), (3, .int (nI g))] [] J (sx_run rw m ln) := by
  refine sx_for n (fun J h => hk J h.1 h.2.1) (fun g J hgc h ih => ?_)
  obtain ⟨h1, h2, h3⟩ := h
  have e37 : J 37 1 = nI n := by rw [h1 37 (by omega)]; exact hb.1.1.trans hn
  refine sx_go m110 100 rfl (fun VV CC hV hC => ?_)
  refine ⟨fun (c1 : J 37 1 ≤ nI g) => ?_, fun _ => ⟨g, ⟨rfl, by omega⟩, g, ⟨rfl, by omega⟩, k, ⟨rfl, by omega⟩, hC _ _ _ _ _ (c_abs ⟨g, ⟨rfl, by omega⟩, hV _ _ _ _ _ _ _ ?_⟩)⟩⟩
  · exfalso; rw [e37] at c1; exact nI_ge hgc (by omega) c1
  · have e41 : J 41 g = s (12 + 5 * g + 3) := by rw [h1 41 (by omega)]; exact gb_doubt_37 hb (by omega)
    have eR : J 62 k = R (24 * 3 + k) := by rw [h1 62 (by omega)]; exact hR
    rw [e41, eR, h3 g (Nat.le_refl g) hgc, gs_abs_off2 ((hi.2 g (by omega)).2.2.2.1) (hnum.resolve_left hnn)]
    have := ih (sx_up J 54 (upd (J 54) g (F g + gs_off (R (24 * 3 + k)) (s (12 + 5 * g + 3))))) ⟨fun a ha => by rw [sx_up_ne ha]; exact h1 a ha, fun q hq => ?_, fun q hq hq2 => ?_⟩
    · rw [nI_succ g] at this
      exact this
    · rw [sx_up_same]
      by_cases e : q = g
      · subst e; exact pk_us
      · rw [pk_un e]; exact h2 q (by omega)
    · rw [sx_up_same, pk_un (by omega)]; exact h3 q (by omega) hq2
theorem v1_sum_61 {n t0 z : Nat} (hi : gs_inv s) (htx : gb_tx I (rw 37) m ln s) (hn : s 0 = nI n) (hn10 : n ≤ 10) (hnt : s 2 = nI t0) (ht0 : t0 ≤ 9999) (hz : I 61 1 = nI z) (hz24 : z ≤ 24) (hg : ∀ i, i < 24 → I 62 i = R (24 * 3 + i)) (ho : ∀ i, i < 24 → gh_num (R (24 * 3 + i)))
    (hk : ∀ J, gb_f54 I J → (∀ g, g < n → J 54 g = gs_offBy s R 3 z g) → K none J (sx_run rw m ln)) :
    ∀ (r k : Nat) (J : sx_I), k + r = z → (gb_f54 I J ∧ gb 37 (gs_many k s) J ∧ ∀ g, g < n → J 54 g = gs_sum (gs_offF s R 3 g) k) → sx_V 110 (d + 6) 0 0 K 21 [(0, .ref 15), (1, .ref 61), (2, .int (nI k))] [] J (sx_run rw m ln) := by
  refine sx_for z (fun J h => ?_) (fun k J hkc h ih => ?_)
  · obtain ⟨h1, h2, h3⟩ := h
    refine sx_go m110 100 rfl (fun VV CC hV hC => ?_)
    refine ⟨fun _ => hk J h1 h3, fun (c1 : ¬ J 61 1 ≤ nI z) => ?_⟩
    exfalso; rw [h1 61 (by omega) (by omega) (by omega), hz] at c1; exact c1 (Int32.le_refl _)
  · obtain ⟨h1, h2, h3⟩ := h
    have hl := gs_lo.many hn hn10 k
    have eR : J 62 k = R (24 * 3 + k) := by rw [h1 62 (by omega) (by omega) (by omega)]; exact hg k (by omega)
    have pass : ∀ (J2 : sx_I) (KK : sx_K), gb_f54 I J2 → gb 37 (gs_many k s) J2 → (∀ g, g < n → J2 54 g = gs_sum (gs_offF s R 3 g) (k + 1)) → (∀ J3 x, sx_V 110 (d + 6) 0 0 K 21 [(0, .ref 15), (1, .ref 61), (2, .int (nI k + nI 1))] [] J3 (sx_run rw m ln) → KK (some (.int x)) J3 (sx_run rw m ln)) → sx_C 19 (d + 5) [.ref 37] J2 (sx_run rw m ln) KK := by
      intro J2 KK f2 b2 e2 hKK
      refine c_pass_37 b2 (hi.many k) (htx.lo (fun a ha hc => f2 a (by omega) (by omega) (by omega)) hl) (gs_many_2 hnt k) (by omega) (fun J3 f3 b3 => hKK J3 _ ?_)
      have := ih J3 ⟨fun a a1 a2 a3 => (f3 a a1 a3).trans (f2 a a1 a2 a3), b3, fun g hg2 => by rw [f3 54 (by omega) (by omega)]; exact e2 g hg2⟩
      rw [nI_succ k] at this
      exact this
    refine sx_go m110 100 rfl (fun VV CC hV hC => ?_)
    refine ⟨fun (c1 : J 61 1 ≤ nI k) => ?_, fun _ => hC _ _ _ _ _ (c_isNum_61 rfl (by omega) (fun c2 => ⟨fun _ => hC _ _ _ _ _ (pass J _ h1 h2 ?_ (fun J3 x hv => hV _ _ _ _ _ _ _ hv)), fun (q : ¬ nI 0 = 0) => absurd rfl q⟩) (fun c2 => ⟨fun (q : nI 1 = 0) => absurd q (by decide +kernel), fun _ => hV _ _ _ _ _ _ _ ?_⟩))⟩
    · exfalso; rw [h1 61 (by omega) (by omega) (by omega), hz] at c1; exact nI_ge hkc (by omega) c1
    · intro g hg2
      rw [eR] at c2
      rw [h3 g hg2, gs_sum, show gs_offF s R 3 g k = 0 from if_pos c2, Int32.add_zero]
    · rw [eR] at c2
      refine v1_sumIn_61 (d := d + 4) (z := n) (F := fun g => gs_sum (gs_offF s R 3 g) k) h2 (hi.many k) (hl.1.trans hn) hn10 (by omega) eR c2 (ho k (by omega)) h3 (fun J2 f2 e2 => ?_) rfl n 0 J (by omega) ⟨fun _ _ => rfl, fun q hq => absurd hq (Nat.not_lt_zero q), fun q _ hq => h3 q hq⟩
      have b2 : gb 37 (gs_many k s) J2 := by
        obtain ⟨⟨q1, q2, q3, q4⟩, q5, q6, q7, q8⟩ := h2
        exact ⟨⟨by rw [f2 _ (by omega)]; exact q1, by rw [f2 _ (by omega)]; exact q2, by rw [f2 _ (by omega)]; exact q3, by rw [f2 _ (by omega)]; exact q4⟩, fun w hw k hk => by rw [f2 _ (by omega)]; exact q5 w hw k hk, fun w hw => by rw [f2 _ (by omega)]; exact q6 w hw, fun w hw => by rw [f2 _ (by omega)]; exact q7 w hw, fun w hw => by rw [f2 _ (by omega)]; exact q8 w hw⟩
      refine sx_go m110 100 rfl (fun VV CC hV hC => ?_)
      refine ⟨fun _ => hC _ _ _ _ _ (pass J2 _ (fun a a1 a2 a3 => (f2 a a2).trans (h1 a a1 a2 a3)) b2 ?_ (fun J3 x hv => hV _ _ _ _ _ _ _ hv)), fun (c1 : ¬ J2 37 1 ≤ nI n) => ?_⟩
      · intro g hg2
        rw [e2 g hg2, gs_sum, show gs_offF s R 3 g k = _ from if_neg c2]
      · exfalso; rw [b2.1.1, hl.1, hn] at c1; exact c1 (Int32.le_refl _)
theorem c_sum_61 {n t0 z : Nat} (hb : gb 19 s I) (hi : gs_inv s) (htx : gb_tx I (rw 19) m ln s) (hn : s 0 = nI n) (hn10 : n ≤ 10) (hnt : s 2 = nI t0) (ht0 : t0 ≤ 9999) (hz : I 61 1 = nI z) (hz24 : z ≤ 24) (hg : ∀ i, i < 24 → I 62 i = R (24 * 3 + i)) (ho : ∀ i, i < 24 → gh_num (R (24 * 3 + i)))
    (hk : ∀ J, gb_f54 I J → (∀ g, g < n → J 54 g = gs_offBy s R 3 z g) → K none J (sx_run (gb_cp rw 37 19 14) m ln)) : sx_C 110 (d + 6) [.ref 15, .ref 61] I (sx_run rw m ln) K := by
  refine sx_enter (by decide +kernel) (Nat.le_of_ble_eq_true rfl) (sx_go m110 100 rfl (fun VV CC hV hC => ?_))
  refine hC _ _ _ _ _ (c_fill54 (fun J1 f1 e1 => hC _ _ _ _ _ (c_become_37_19 (s := s) ?_ htx.ro (fun J2 f2 b2 => hV _ _ _ _ _ _ _ ?_))))
  · obtain ⟨⟨q1, q2, q3, q4⟩, q5, q6, q7, q8⟩ := hb
    exact ⟨⟨by rw [f1 _ (by omega)]; exact q1, by rw [f1 _ (by omega)]; exact q2, by rw [f1 _ (by omega)]; exact q3, by rw [f1 _ (by omega)]; exact q4⟩, fun w hw k hk => by rw [f1 _ (by omega)]; exact q5 w hw k hk, fun w hw => by rw [f1 _ (by omega)]; exact q6 w hw, fun w hw => by rw [f1 _ (by omega)]; exact q7 w hw, fun w hw => by rw [f1 _ (by omega)]; exact q8 w hw⟩
  · refine v1_sum_61 (d := d) (I := I) hi (gb_tx.cp (rw := rw) (S := 19) 37 htx) hn hn10 hnt ht0 hz hz24 hg ho hk z 0 J2 (by omega) ⟨fun a a1 a2 a3 => (f2 a a1 a3).trans (f1 a a2), b2, fun g hg2 => ?_⟩
    rw [f2 54 (by omega) (by omega)]
    exact e1 g (by omega)
theorem v1_like {n : Nat} {w : Int32} {F : Nat → Int32} (hn : I 19 1 = nI n) (hn10 : n ≤ 10) (hn1 : 1 ≤ n) (hF : ∀ g, g < n → I 54 g = F g) (hk : K (some (.int (if w = 0 then (gs_least F n).1 else (gs_least F n).2))) I (sx_run rw m ln)) :
    ∀ (r k : Nat), k + r = n → 1 ≤ k → sx_V 79 (d + 1) 0 0 K 63 [(0, .ref 15), (2, .int w), (3, .int (gs_least F k).1), (4, .int (nI k))] [] I (sx_run rw m ln)
  | 0, k, h, h1 => by
    have : k = n := by omega
    subst this
    obtain ⟨b, hb, e⟩ := gs_least_ok F k hn1 hn10
    rw [e] at hk ⊢
    refine sx_go m79 100 rfl (fun VV CC hV hC => ?_)
    refine ⟨fun _ => ⟨fun (c2 : ¬ w = 0) => ⟨b, ⟨rfl, by omega⟩, ?_⟩, fun (c2 : w = 0) => ?_⟩, fun (c1 : ¬ I 19 1 ≤ nI k) => ?_⟩
    · rw [if_neg c2] at hk; exact sx_kk (hF b hb) hk
    · rw [if_pos c2] at hk; exact hk
    · exfalso; rw [hn] at c1; exact c1 (Int32.le_refl _)
  | r + 1, k, h, h1 => by
    obtain ⟨b, hb, e⟩ := gs_least_ok F k h1 (by omega)
    have hI := v1_like hn hn10 hn1 hF hk r (k + 1) (by omega) (by omega)
    have nn : ¬ (nI b : Int32) < 0 := nI_pos (by omega)
    rw [e]
    refine sx_go m79 100 rfl (fun VV CC hV hC => ?_)
    refine ⟨fun (c1 : I 19 1 ≤ nI k) => ?_, fun _ => ⟨k, ⟨rfl, by omega⟩, b, ⟨rfl, by omega⟩, fun (c2 : I 54 b ≤ I 54 k) => hV _ _ _ _ _ _ _ ?_, fun (c2 : ¬ I 54 b ≤ I 54 k) => hV _ _ _ _ _ _ _ ?_⟩⟩
    · exfalso; rw [hn] at c1; exact nI_ge (show k < n by omega) (by omega) c1
    · rw [hF b (by omega), hF k (by omega)] at c2
      have e2 : gs_least F (k + 1) = gs_least F k := if_neg (by rw [e]; exact fun q => q.elim nn (fun q => absurd q (Int32.not_lt.mpr c2)))
      rw [e2, e, nI_succ k] at hI
      exact hI
    · rw [hF b (by omega), hF k (by omega)] at c2
      have e2 : gs_least F (k + 1) = (nI k, F k) := if_pos (by rw [e]; exact Or.inr (Int32.not_le.mp c2))
      rw [e2, nI_succ k] at hI
      exact hI
theorem c1_like_55 {t0 : Nat} {w : Int32} (hb : gb 19 s I) (hi : gs_inv s) (htx : gb_tx I (rw 19) m ln s) (hnt : s 2 = nI t0) (ht0 : t0 ≤ 9999) (hg : gh S Z R I) (ho : gh_ok S Z R) (hw : ¬ gs_in w 0 (nI 1) = 0) (hk : ∀ J rw', gb_f54 I J → gb_rw 37 rw rw' → K (some (.int (gs_like s S Z R (nI 0) w))) J (sx_run rw' m ln)) : sx_C 79 (d + 7) [.ref 15, .int (nI 0), .int w] I (sx_run rw m ln) K := by
  obtain ⟨⟨n, hn, hn10⟩, -⟩ := id hi
  have hsh : ¬ gs_in (nI 0) 0 (nI 3) = 0 := gs_in_c (by omega) (by omega)
  obtain ⟨g0, g1, g2⟩ := hg 0 (by omega)
  have g0 : I 55 0 = S 0 := g0
  have g1 : I 55 1 = Z 0 := g1
  obtain ⟨o0, ⟨z, oz, oz24⟩, o2⟩ := ho 0 (by omega)
  have hneg := gh_S ho (j := 0) (by omega)
  generalize e : gs_like s S Z R (nI 0) w = g at hk
  unfold gs_like at e
  rw [if_neg (fun h => h.elim hsh hw), show (nI 0).toNatClampNeg = 0 from nI_clamp (by omega), oz, nI_clamp (by omega), gs_N_eq hn hn10] at e
  have rf : gb_f54 I I := fun _ _ _ _ => rfl
  refine sx_enter (by decide +kernel) (Nat.le_of_ble_eq_true rfl) (sx_go m79 100 rfl (fun VV CC hV hC => ?_))
  refine hC _ _ _ _ _ (c_isSheet1 ⟨fun (c1 : gs_in (nI 0) 0 (nI 3) = 0) => absurd c1 hsh, fun _ => hC _ _ _ _ _ (c_isWithin ⟨fun _ => ⟨0, ⟨rfl, by omega⟩, fun b (eb : some 55 = some b) => ?_, fun (eb : some 55 = none) => by cases eb⟩, fun (c1 : gs_in w (nI 0) (nI 1) = 0) => absurd c1 hw⟩)⟩)
  cases eb
  refine ⟨fun (c2 : ¬ I 55 0 = -1) => ⟨fun (c3 : ¬ I 19 1 = 0) => ⟨0, ⟨rfl, by omega⟩, fun b (eb : some 55 = some b) => ?_, fun (eb : some 55 = none) => by cases eb⟩, fun (c3 : I 19 1 = 0) => ?_⟩, fun (c2 : I 55 0 = -1) => ?_⟩
  · cases eb
    rw [g0] at c2
    rw [hb.1.1, hn] at c3
    have hn1 : 1 ≤ n := by
      refine Nat.pos_of_ne_zero (fun h => c3 (by rw [h]; rfl))
    rw [if_neg (fun h => c2 (hneg.mp h))] at e
    obtain ⟨b, hbn, el⟩ := gs_least_ok (gs_offBy s R 0 z) n hn1 hn10
    have nn : ¬ (gs_least (gs_offBy s R 0 z) n).1 < 0 := by rw [el]; exact nI_pos (by omega)
    rw [if_neg nn] at e
    refine hC _ _ _ _ _ (c_sum_55 hb hi htx hn hn10 hnt ht0 (g1.trans oz) oz24 g2 o2 (fun J f eF => hV _ _ _ _ _ _ _ ?_))
    have e1 : (nI 0 : Int32) = (gs_least (gs_offBy s R 0 z) 1).1 := (gs_least_1 _).symm
    rw [e1]
    refine v1_like (d := d + 6) (F := gs_offBy s R 0 z) (by rw [f 19 (by omega) (by omega) (by omega)]; exact hb.1.1.trans hn) hn10 hn1 eF ?_ (n - 1) 1 (by omega) (by omega)
    rw [e]
    exact hk J _ f (gb_rw.cp 37 19 rw)
  · rw [g0] at c2
    rw [hb.1.1, hn] at c3
    have hn0 : n = 0 := by
      refine Decidable.byContradiction (fun h => ?_)
      exact nI_ne0 (n := n) (by omega) (by omega) c3
    subst hn0
    rw [if_neg (fun h => c2 (hneg.mp h)), if_pos (gs_least_0 _)] at e
    exact sx_kk e (hk I rw rf (gb_rw.rf _ _))
  · rw [g0] at c2
    rw [if_pos (hneg.mpr c2)] at e
    exact sx_kk e (hk I rw rf (gb_rw.rf _ _))
theorem c1_like_57 {t0 : Nat} {w : Int32} (hb : gb 19 s I) (hi : gs_inv s) (htx : gb_tx I (rw 19) m ln s) (hnt : s 2 = nI t0) (ht0 : t0 ≤ 9999) (hg : gh S Z R I) (ho : gh_ok S Z R) (hw : ¬ gs_in w 0 (nI 1) = 0) (hk : ∀ J rw', gb_f54 I J → gb_rw 37 rw rw' → K (some (.int (gs_like s S Z R (nI 1) w))) J (sx_run rw' m ln)) : sx_C 79 (d + 7) [.ref 15, .int (nI 1), .int w] I (sx_run rw m ln) K := by
  obtain ⟨⟨n, hn, hn10⟩, -⟩ := id hi
  have hsh : ¬ gs_in (nI 1) 0 (nI 3) = 0 := gs_in_c (by omega) (by omega)
  obtain ⟨g0, g1, g2⟩ := hg 1 (by omega)
  have g0 : I 57 0 = S 1 := g0
  have g1 : I 57 1 = Z 1 := g1
  obtain ⟨o0, ⟨z, oz, oz24⟩, o2⟩ := ho 1 (by omega)
  have hneg := gh_S ho (j := 1) (by omega)
  generalize e : gs_like s S Z R (nI 1) w = g at hk
  unfold gs_like at e
  rw [if_neg (fun h => h.elim hsh hw), show (nI 1).toNatClampNeg = 1 from nI_clamp (by omega), oz, nI_clamp (by omega), gs_N_eq hn hn10] at e
  have rf : gb_f54 I I := fun _ _ _ _ => rfl
  refine sx_enter (by decide +kernel) (Nat.le_of_ble_eq_true rfl) (sx_go m79 100 rfl (fun VV CC hV hC => ?_))
  refine hC _ _ _ _ _ (c_isSheet1 ⟨fun (c1 : gs_in (nI 1) 0 (nI 3) = 0) => absurd c1 hsh, fun _ => hC _ _ _ _ _ (c_isWithin ⟨fun _ => ⟨1, ⟨rfl, by omega⟩, fun b (eb : some 57 = some b) => ?_, fun (eb : some 57 = none) => by cases eb⟩, fun (c1 : gs_in w (nI 0) (nI 1) = 0) => absurd c1 hw⟩)⟩)
  cases eb
  refine ⟨fun (c2 : ¬ I 57 0 = -1) => ⟨fun (c3 : ¬ I 19 1 = 0) => ⟨1, ⟨rfl, by omega⟩, fun b (eb : some 57 = some b) => ?_, fun (eb : some 57 = none) => by cases eb⟩, fun (c3 : I 19 1 = 0) => ?_⟩, fun (c2 : I 57 0 = -1) => ?_⟩
  · cases eb
    rw [g0] at c2
    rw [hb.1.1, hn] at c3
    have hn1 : 1 ≤ n := by
      refine Nat.pos_of_ne_zero (fun h => c3 (by rw [h]; rfl))
    rw [if_neg (fun h => c2 (hneg.mp h))] at e
    obtain ⟨b, hbn, el⟩ := gs_least_ok (gs_offBy s R 1 z) n hn1 hn10
    have nn : ¬ (gs_least (gs_offBy s R 1 z) n).1 < 0 := by rw [el]; exact nI_pos (by omega)
    rw [if_neg nn] at e
    refine hC _ _ _ _ _ (c_sum_57 hb hi htx hn hn10 hnt ht0 (g1.trans oz) oz24 g2 o2 (fun J f eF => hV _ _ _ _ _ _ _ ?_))
    have e1 : (nI 0 : Int32) = (gs_least (gs_offBy s R 1 z) 1).1 := (gs_least_1 _).symm
    rw [e1]
    refine v1_like (d := d + 6) (F := gs_offBy s R 1 z) (by rw [f 19 (by omega) (by omega) (by omega)]; exact hb.1.1.trans hn) hn10 hn1 eF ?_ (n - 1) 1 (by omega) (by omega)
    rw [e]
    exact hk J _ f (gb_rw.cp 37 19 rw)
  · rw [g0] at c2
    rw [hb.1.1, hn] at c3
    have hn0 : n = 0 := by
      refine Decidable.byContradiction (fun h => ?_)
      exact nI_ne0 (n := n) (by omega) (by omega) c3
    subst hn0
    rw [if_neg (fun h => c2 (hneg.mp h)), if_pos (gs_least_0 _)] at e
    exact sx_kk e (hk I rw rf (gb_rw.rf _ _))
  · rw [g0] at c2
    rw [if_pos (hneg.mpr c2)] at e
    exact sx_kk e (hk I rw rf (gb_rw.rf _ _))
theorem c1_like_59 {t0 : Nat} {w : Int32} (hb : gb 19 s I) (hi : gs_inv s) (htx : gb_tx I (rw 19) m ln s) (hnt : s 2 = nI t0) (ht0 : t0 ≤ 9999) (hg : gh S Z R I) (ho : gh_ok S Z R) (hw : ¬ gs_in w 0 (nI 1) = 0) (hk : ∀ J rw', gb_f54 I J → gb_rw 37 rw rw' → K (some (.int (gs_like s S Z R (nI 2) w))) J (sx_run rw' m ln)) : sx_C 79 (d + 7) [.ref 15, .int (nI 2), .int w] I (sx_run rw m ln) K := by
  obtain ⟨⟨n, hn, hn10⟩, -⟩ := id hi
  have hsh : ¬ gs_in (nI 2) 0 (nI 3) = 0 := gs_in_c (by omega) (by omega)
  obtain ⟨g0, g1, g2⟩ := hg 2 (by omega)
  have g0 : I 59 0 = S 2 := g0
  have g1 : I 59 1 = Z 2 := g1
  obtain ⟨o0, ⟨z, oz, oz24⟩, o2⟩ := ho 2 (by omega)
  have hneg := gh_S ho (j := 2) (by omega)
  generalize e : gs_like s S Z R (nI 2) w = g at hk
  unfold gs_like at e
  rw [if_neg (fun h => h.elim hsh hw), show (nI 2).toNatClampNeg = 2 from nI_clamp (by omega), oz, nI_clamp (by omega), gs_N_eq hn hn10] at e
  have rf : gb_f54 I I := fun _ _ _ _ => rfl
  refine sx_enter (by decide +kernel) (Nat.le_of_ble_eq_true rfl) (sx_go m79 100 rfl (fun VV CC hV hC => ?_))
  refine hC _ _ _ _ _ (c_isSheet1 ⟨fun (c1 : gs_in (nI 2) 0 (nI 3) = 0) => absurd c1 hsh, fun _ => hC _ _ _ _ _ (c_isWithin ⟨fun _ => ⟨2, ⟨rfl, by omega⟩, fun b (eb : some 59 = some b) => ?_, fun (eb : some 59 = none) => by cases eb⟩, fun (c1 : gs_in w (nI 0) (nI 1) = 0) => absurd c1 hw⟩)⟩)
  cases eb
  refine ⟨fun (c2 : ¬ I 59 0 = -1) => ⟨fun (c3 : ¬ I 19 1 = 0) => ⟨2, ⟨rfl, by omega⟩, fun b (eb : some 59 = some b) => ?_, fun (eb : some 59 = none) => by cases eb⟩, fun (c3 : I 19 1 = 0) => ?_⟩, fun (c2 : I 59 0 = -1) => ?_⟩
  · cases eb
    rw [g0] at c2
    rw [hb.1.1, hn] at c3
    have hn1 : 1 ≤ n := by
      refine Nat.pos_of_ne_zero (fun h => c3 (by rw [h]; rfl))
    rw [if_neg (fun h => c2 (hneg.mp h))] at e
    obtain ⟨b, hbn, el⟩ := gs_least_ok (gs_offBy s R 2 z) n hn1 hn10
    have nn : ¬ (gs_least (gs_offBy s R 2 z) n).1 < 0 := by rw [el]; exact nI_pos (by omega)
    rw [if_neg nn] at e
    refine hC _ _ _ _ _ (c_sum_59 hb hi htx hn hn10 hnt ht0 (g1.trans oz) oz24 g2 o2 (fun J f eF => hV _ _ _ _ _ _ _ ?_))
    have e1 : (nI 0 : Int32) = (gs_least (gs_offBy s R 2 z) 1).1 := (gs_least_1 _).symm
    rw [e1]
    refine v1_like (d := d + 6) (F := gs_offBy s R 2 z) (by rw [f 19 (by omega) (by omega) (by omega)]; exact hb.1.1.trans hn) hn10 hn1 eF ?_ (n - 1) 1 (by omega) (by omega)
    rw [e]
    exact hk J _ f (gb_rw.cp 37 19 rw)
  · rw [g0] at c2
    rw [hb.1.1, hn] at c3
    have hn0 : n = 0 := by
      refine Decidable.byContradiction (fun h => ?_)
      exact nI_ne0 (n := n) (by omega) (by omega) c3
    subst hn0
    rw [if_neg (fun h => c2 (hneg.mp h)), if_pos (gs_least_0 _)] at e
    exact sx_kk e (hk I rw rf (gb_rw.rf _ _))
  · rw [g0] at c2
    rw [if_pos (hneg.mpr c2)] at e
    exact sx_kk e (hk I rw rf (gb_rw.rf _ _))
theorem c1_like_61 {t0 : Nat} {w : Int32} (hb : gb 19 s I) (hi : gs_inv s) (htx : gb_tx I (rw 19) m ln s) (hnt : s 2 = nI t0) (ht0 : t0 ≤ 9999) (hg : gh S Z R I) (ho : gh_ok S Z R) (hw : ¬ gs_in w 0 (nI 1) = 0) (hk : ∀ J rw', gb_f54 I J → gb_rw 37 rw rw' → K (some (.int (gs_like s S Z R (nI 3) w))) J (sx_run rw' m ln)) : sx_C 79 (d + 7) [.ref 15, .int (nI 3), .int w] I (sx_run rw m ln) K := by
  obtain ⟨⟨n, hn, hn10⟩, -⟩ := id hi
  have hsh : ¬ gs_in (nI 3) 0 (nI 3) = 0 := gs_in_c (by omega) (by omega)
  obtain ⟨g0, g1, g2⟩ := hg 3 (by omega)
  have g0 : I 61 0 = S 3 := g0
  have g1 : I 61 1 = Z 3 := g1
  obtain ⟨o0, ⟨z, oz, oz24⟩, o2⟩ := ho 3 (by omega)
  have hneg := gh_S ho (j := 3) (by omega)
  generalize e : gs_like s S Z R (nI 3) w = g at hk
  unfold gs_like at e
  rw [if_neg (fun h => h.elim hsh hw), show (nI 3).toNatClampNeg = 3 from nI_clamp (by omega), oz, nI_clamp (by omega), gs_N_eq hn hn10] at e
  have rf : gb_f54 I I := fun _ _ _ _ => rfl
  refine sx_enter (by decide +kernel) (Nat.le_of_ble_eq_true rfl) (sx_go m79 100 rfl (fun VV CC hV hC => ?_))
  refine hC _ _ _ _ _ (c_isSheet1 ⟨fun (c1 : gs_in (nI 3) 0 (nI 3) = 0) => absurd c1 hsh, fun _ => hC _ _ _ _ _ (c_isWithin ⟨fun _ => ⟨3, ⟨rfl, by omega⟩, fun b (eb : some 61 = some b) => ?_, fun (eb : some 61 = none) => by cases eb⟩, fun (c1 : gs_in w (nI 0) (nI 1) = 0) => absurd c1 hw⟩)⟩)
  cases eb
  refine ⟨fun (c2 : ¬ I 61 0 = -1) => ⟨fun (c3 : ¬ I 19 1 = 0) => ⟨3, ⟨rfl, by omega⟩, fun b (eb : some 61 = some b) => ?_, fun (eb : some 61 = none) => by cases eb⟩, fun (c3 : I 19 1 = 0) => ?_⟩, fun (c2 : I 61 0 = -1) => ?_⟩
  · cases eb
    rw [g0] at c2
    rw [hb.1.1, hn] at c3
    have hn1 : 1 ≤ n := by
      refine Nat.pos_of_ne_zero (fun h => c3 (by rw [h]; rfl))
    rw [if_neg (fun h => c2 (hneg.mp h))] at e
    obtain ⟨b, hbn, el⟩ := gs_least_ok (gs_offBy s R 3 z) n hn1 hn10
    have nn : ¬ (gs_least (gs_offBy s R 3 z) n).1 < 0 := by rw [el]; exact nI_pos (by omega)
    rw [if_neg nn] at e
    refine hC _ _ _ _ _ (c_sum_61 hb hi htx hn hn10 hnt ht0 (g1.trans oz) oz24 g2 o2 (fun J f eF => hV _ _ _ _ _ _ _ ?_))
    have e1 : (nI 0 : Int32) = (gs_least (gs_offBy s R 3 z) 1).1 := (gs_least_1 _).symm
    rw [e1]
    refine v1_like (d := d + 6) (F := gs_offBy s R 3 z) (by rw [f 19 (by omega) (by omega) (by omega)]; exact hb.1.1.trans hn) hn10 hn1 eF ?_ (n - 1) 1 (by omega) (by omega)
    rw [e]
    exact hk J _ f (gb_rw.cp 37 19 rw)
  · rw [g0] at c2
    rw [hb.1.1, hn] at c3
    have hn0 : n = 0 := by
      refine Decidable.byContradiction (fun h => ?_)
      exact nI_ne0 (n := n) (by omega) (by omega) c3
    subst hn0
    rw [if_neg (fun h => c2 (hneg.mp h)), if_pos (gs_least_0 _)] at e
    exact sx_kk e (hk I rw rf (gb_rw.rf _ _))
  · rw [g0] at c2
    rw [if_pos (hneg.mpr c2)] at e
    exact sx_kk e (hk I rw rf (gb_rw.rf _ _))
theorem c1_like {t0 : Nat} {a w : Int32} (hb : gb 19 s I) (hi : gs_inv s) (htx : gb_tx I (rw 19) m ln s) (hnt : s 2 = nI t0) (ht0 : t0 ≤ 9999) (hg : gh S Z R I) (ho : gh_ok S Z R) (hk : ∀ J rw', gb_f54 I J → gb_rw 37 rw rw' → K (some (.int (gs_like s S Z R a w))) J (sx_run rw' m ln)) : sx_C 79 (d + 7) [.ref 15, .int a, .int w] I (sx_run rw m ln) K := by
  have rf : gb_f54 I I := fun _ _ _ _ => rfl
  by_cases c1 : gs_in a 0 (nI 3) = 0
  · have e : gs_like s S Z R a w = -1000000001 := if_pos (Or.inl c1)
    rw [e] at hk
    refine sx_enter (by decide +kernel) (Nat.le_of_ble_eq_true rfl) (sx_go m79 100 rfl (fun VV CC hV hC => ?_))
    exact hC _ _ _ _ _ (c_isSheet1 ⟨fun _ => hk I rw rf (gb_rw.rf _ _), fun (q : ¬ gs_in a 0 (nI 3) = 0) => absurd c1 q⟩)
  · by_cases c2 : gs_in w 0 (nI 1) = 0
    · have e : gs_like s S Z R a w = -1000000001 := if_pos (Or.inr c2)
      rw [e] at hk
      refine sx_enter (by decide +kernel) (Nat.le_of_ble_eq_true rfl) (sx_go m79 100 rfl (fun VV CC hV hC => ?_))
      exact hC _ _ _ _ _ (c_isSheet1 ⟨fun (q : gs_in a 0 (nI 3) = 0) => absurd q c1, fun _ => hC _ _ _ _ _ (c_isWithin ⟨fun (q : ¬ gs_in w (nI 0) (nI 1) = 0) => absurd c2 q, fun _ => hk I rw rf (gb_rw.rf _ _)⟩)⟩)
    · obtain ⟨j, rfl, _, h3⟩ := gs_in_nat (a := 0) (by decide) c1 (by decide)
      have : j = 0 ∨ j = 1 ∨ j = 2 ∨ j = 3 := by omega
      rcases this with rfl | rfl | rfl | rfl
      · exact c1_like_55 hb hi htx hnt ht0 hg ho c2 hk
      · exact c1_like_57 hb hi htx hnt ht0 hg ho c2 hk
      · exact c1_like_59 hb hi htx hnt ht0 hg ho c2 hk
      · exact c1_like_61 hb hi htx hnt ht0 hg ho c2 hk
end
