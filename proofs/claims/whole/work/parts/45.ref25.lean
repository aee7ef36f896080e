/-! ===== the reference: whose doubts a sheet is like ===== -/
def gs_offF (s R : Nat → Int32) (j one k : Nat) : Int32 := if R (24 * j + k) = -1000000005 then nI 0 else gs_off (R (24 * j + k)) (gs_many k s (12 + 5 * one + 3))
def gs_offBy (s R : Nat → Int32) (j z one : Nat) : Int32 := gs_sum (gs_offF s R j one) z
def gs_least (f : Nat → Int32) : Nat → Int32 × Int32
  | 0 => (-1, nI 0)
  | k + 1 => if (gs_least f k).1 < 0 ∨ f k < (gs_least f k).2 then (nI k, f k) else gs_least f k
def gs_like (s S Z R : Nat → Int32) (a w : Int32) : Int32 :=
  if gs_in a 0 (nI 3) = 0 ∨ gs_in w 0 (nI 1) = 0 then -1000000001 else if S a.toNatClampNeg < 0 then -1000000011
  else if (gs_least (gs_offBy s R a.toNatClampNeg (Z a.toNatClampNeg).toNatClampNeg) (gs_N s)).1 < 0 then -1000000005
  else if w = 0 then (gs_least (gs_offBy s R a.toNatClampNeg (Z a.toNatClampNeg).toNatClampNeg) (gs_N s)).1 else (gs_least (gs_offBy s R a.toNatClampNeg (Z a.toNatClampNeg).toNatClampNeg) (gs_N s)).2
section
variable {d m : Nat} {I : sx_I} {rw : Nat → Nat → Option Nat} {ln : Nat → Nat} {K : sx_K}
theorem v_offBy {n j z one : Nat} (hn : I 79 0 = nI n) (hn10 : n ≤ 10) (htx : gs_tx (I 79)) (hj : j < 4) (ho : one < 10) (hz : I 83 j = nI z) (hz24 : z ≤ 24) (hk : ∀ I', gs_sd I I' → K (some (.int (gs_offBy (I 79) (I 84) j z one))) I' (sx_run rw m ln)) (I1 : sx_I) (hh : gs_hold I I1) :
    ∀ (r k : Nat) (I' : sx_I), k + r = z → gs_sc (sx_up I1 79 (gs_many k (I 79))) I' → sx_V 198 (d + 8) 0 0 K 9 [(0, .ref 78), (1, .int (nI j)), (2, .int (nI one)), (3, .int (gs_sum (gs_offF (I 79) (I 84) j one) k)), (4, .int (nI k))] [] I' (sx_run rw m ln) := by
  have oth : ∀ (k : Nat) (I' : sx_I), gs_sc (sx_up I1 79 (gs_many k (I 79))) I' → ∀ a, a ≠ 79 → a ≠ 90 → a ≠ 92 → a ≠ 93 → I' a = I a := by
    intro k I' h a h1 h2 h3 h4
    exact ((h a h3 h4).trans (sx_up_ne h1)).trans (hh.1 a h2 h3 h4)
  refine sx_for z (fun I' hsc => ?_) (fun k I' hkc hsc ih => ?_)
  · have ez : I' 83 j = nI z := by rw [oth _ _ hsc 83 (by decide) (by decide) (by decide) (by decide), hz]
    have hb := (hh.back hsc (gs_lo.many hn hn10 z)).1
    refine sx_go m198 60 rfl (fun VV CC hV hC => ?_)
    refine ⟨j, ⟨rfl, by omega⟩, fun _ => hC _ _ _ _ _ (c_laysBack (hk _ hb)), fun (c1 : ¬ I' 83 j ≤ nI z) => ?_⟩
    exfalso; rw [ez] at c1; exact c1 (nI_le (Nat.le_refl z) (by omega))
  · have ez : I' 83 j = nI z := by rw [oth _ _ hsc 83 (by decide) (by decide) (by decide) (by decide), hz]
    have e84 : I' 84 = I 84 := oth _ _ hsc 84 (by decide) (by decide) (by decide) (by decide)
    have e79 := hsc.at
    have hl := gs_lo.many hn hn10 k
    have nxt : ∀ v, v = gs_offF (I 79) (I 84) j one k → ∀ I2, gs_sc (sx_up I' 79 (gs_night (I' 79))) I2 → sx_V 198 (d + 8) 0 0 K 9 [(0, .ref 78), (1, .int (nI j)), (2, .int (nI one)), (3, .int (gs_sum (gs_offF (I 79) (I 84) j one) k + v)), (4, .int (nI k + nI 1))] [] I2 (sx_run rw m ln) := by
      intro v hv I2 h2
      rw [e79] at h2
      have := ih I2 ((hsc.st _).tr h2)
      rw [nI_succ] at this
      rw [hv]
      exact this
    have go : ∀ (KK : sx_K), (∀ I2, gs_sc (sx_up I' 79 (gs_night (I' 79))) I2 → KK none I2 (sx_run rw m ln)) → sx_C 149 (d + 7) [.ref 78] I' (sx_run rw m ln) KK := by
      intro KK h
      exact c_goesOn (n := n) (by rw [e79]; exact hl.1.trans hn) hn10 (by rw [e79]; exact gs_tx_lo hl htx) h
    refine sx_go m198 60 rfl (fun VV CC hV hC => ?_)
    refine ⟨j, ⟨rfl, by omega⟩, fun (c1 : I' 83 j ≤ nI k) => ?_, fun (c1 : ¬ I' 83 j ≤ nI k) => ⟨24 * j + k, ⟨by simp only [pk_mul, nI_add], by omega⟩, fun (c2 : ¬ I' 84 (24 * j + k) = -1000000005) => hC _ _ _ _ _ (c_of rfl rfl (by omega) (hC _ _ _ _ _ (c_off (hC _ _ _ _ _ (go _ (fun I2 h2 => hV _ _ _ _ _ _ _ (nxt _ ?_ I2 h2))))))), fun (c2 : I' 84 (24 * j + k) = -1000000005) => hC _ _ _ _ _ (go _ (fun I2 h2 => hV _ _ _ _ _ _ _ (nxt _ ?_ I2 h2)))⟩⟩
    · exfalso; rw [ez] at c1; exact nI_ge hkc (by omega) c1
    · rw [e84] at c2 ⊢
      unfold gs_offF
      rw [if_neg c2, e79]
    · rw [e84] at c2
      unfold gs_offF
      rw [if_pos c2]
theorem c_offBy {n j z one : Nat} {x y : Int32} (hx : x = nI j) (hy : y = nI one) (hn : I 79 0 = nI n) (hn10 : n ≤ 10) (htx : gs_tx (I 79)) (hj : j < 4) (ho : one < 10) (hz : I 83 j = nI z) (hz24 : z ≤ 24) (hk : ∀ I', gs_sd I I' → K (some (.int (gs_offBy (I 79) (I 84) j z one))) I' (sx_run rw m ln)) : sx_C 198 (d + 8) [.ref 78, .int x, .int y] I (sx_run rw m ln) K := by
  subst hx; subst hy
  refine sx_enter (by decide +kernel) (Nat.le_of_ble_eq_true rfl) (sx_go m198 60 rfl (fun VV CC hV hC => ?_))
  refine hC _ _ _ _ _ (c_laysBy (hV _ _ _ _ _ _ _ ?_))
  refine v_offBy (d := d) hn hn10 htx hj ho hz hz24 hk _ (gs_hold.start I) z 0 _ (by omega) ?_
  have e : sx_up I 90 (gs_62 (I 90) (I 79) 62) 79 = I 79 := sx_up_ne (by decide)
  have e2 : sx_up (sx_up I 90 (gs_62 (I 90) (I 79) 62)) 79 (gs_many 0 (I 79)) = sx_up I 90 (gs_62 (I 90) (I 79) 62) := sx_upat e
  rw [e2]
  exact gs_sc.rf _
theorem v_like {n j z : Nat} {w : Int32} (hn : I 79 0 = nI n) (hn10 : n ≤ 10) (htx : gs_tx (I 79)) (hj : j < 4) (hz : I 83 j = nI z) (hz24 : z ≤ 24) (hk : ∀ I', gs_sd I I' → K (some (.int (if (gs_least (gs_offBy (I 79) (I 84) j z) n).1 < 0 then -1000000005 else if w = 0 then (gs_least (gs_offBy (I 79) (I 84) j z) n).1 else (gs_least (gs_offBy (I 79) (I 84) j z) n).2))) I' (sx_run rw m ln)) :
    ∀ (r k : Nat) (I' : sx_I), k + r = n → gs_sd I I' → sx_V 199 (d + 9) 0 0 K 41 [(0, .ref 78), (1, .int (nI j)), (2, .int w), (3, .int (gs_least (gs_offBy (I 79) (I 84) j z) k).1), (4, .int (gs_least (gs_offBy (I 79) (I 84) j z) k).2), (5, .int (nI k))] [] I' (sx_run rw m ln) := by
  refine sx_for n (fun I' hh => ?_) (fun k I' hkc hh ih => ?_)
  · have hk2 := hk I' hh
    have e79 : I' 79 = I 79 := hh 79 (by decide) (by decide) (by decide)
    refine sx_go m199 60 rfl (fun VV CC hV hC => ?_)
    refine ⟨0, ⟨rfl, by omega⟩, fun c1 => ⟨fun (c2 : (0 : Int32) ≤ _) => ⟨fun (c3 : ¬ w = 0) => ?_, fun (c3 : w = 0) => ?_⟩, fun (c2 : ¬ (0 : Int32) ≤ _) => ?_⟩, fun c1 => ?_⟩
    · rw [if_neg (Int32.not_lt.mpr c2), if_neg c3] at hk2; exact hk2
    · rw [if_neg (Int32.not_lt.mpr c2), if_pos c3] at hk2; exact hk2
    · rw [if_pos (Int32.not_le.mp c2)] at hk2; exact hk2
    · exfalso; rw [e79, hn] at c1; exact c1 (nI_le (Nat.le_refl _) (by omega))
  · have e79 : I' 79 = I 79 := hh 79 (by decide) (by decide) (by decide)
    have e83 : I' 83 = I 83 := hh 83 (by decide) (by decide) (by decide)
    have e84 : I' 84 = I 84 := hh 84 (by decide) (by decide) (by decide)
    refine sx_go m199 60 rfl (fun VV CC hV hC => ?_)
    refine ⟨0, ⟨rfl, by omega⟩, fun c1 => ?_, fun c1 => ?_⟩
    · exfalso; rw [e79, hn] at c1; exact nI_ge hkc (by omega) c1
    · refine hC _ _ _ _ _ (c_offBy (d := d) (j := j) (z := z) (one := k) rfl rfl (by rw [e79]; exact hn) hn10 (by rw [e79]; exact htx) hj (by omega) (by rw [e83]; exact hz) hz24 (fun I2 h2 => ?_))
      rw [e79, e84]
      have yes : ((gs_least (gs_offBy (I 79) (I 84) j z) k).1 < 0 ∨ gs_offBy (I 79) (I 84) j z k < (gs_least (gs_offBy (I 79) (I 84) j z) k).2) → sx_V 199 (d + 9) 0 0 K 41 [(0, .ref 78), (1, .int (nI j)), (2, .int w), (3, .int (nI k)), (4, .int (gs_offBy (I 79) (I 84) j z k)), (5, .int (nI k + nI 1))] [] I2 (sx_run rw m ln) := by
        intro h
        have := ih I2 (hh.tr h2)
        rw [nI_succ, show gs_least (gs_offBy (I 79) (I 84) j z) (k + 1) = _ from if_pos h] at this
        exact this
      have no : ¬ ((gs_least (gs_offBy (I 79) (I 84) j z) k).1 < 0 ∨ gs_offBy (I 79) (I 84) j z k < (gs_least (gs_offBy (I 79) (I 84) j z) k).2) → sx_V 199 (d + 9) 0 0 K 41 [(0, .ref 78), (1, .int (nI j)), (2, .int w), (3, .int (gs_least (gs_offBy (I 79) (I 84) j z) k).1), (4, .int (gs_least (gs_offBy (I 79) (I 84) j z) k).2), (5, .int (nI k + nI 1))] [] I2 (sx_run rw m ln) := by
        intro h
        have := ih I2 (hh.tr h2)
        rw [nI_succ, show gs_least (gs_offBy (I 79) (I 84) j z) (k + 1) = _ from if_neg h] at this
        exact this
      refine ⟨fun (c2 : (gs_least (gs_offBy (I 79) (I 84) j z) k).1 < 0) => hV _ _ _ _ _ _ _ (yes (Or.inl c2)), fun (c2 : ¬ (gs_least (gs_offBy (I 79) (I 84) j z) k).1 < 0) => ⟨fun (c3 : (gs_least (gs_offBy (I 79) (I 84) j z) k).2 ≤ gs_offBy (I 79) (I 84) j z k) => hV _ _ _ _ _ _ _ (no (fun h => h.elim c2 (fun q => absurd q (Int32.not_lt.mpr c3)))), fun (c3 : ¬ (gs_least (gs_offBy (I 79) (I 84) j z) k).2 ≤ gs_offBy (I 79) (I 84) j z k) => hV _ _ _ _ _ _ _ (yes (Or.inr (Int32.not_le.mp c3)))⟩⟩
theorem c_like {n : Nat} {a w : Int32} (hn : I 79 0 = nI n) (hn10 : n ≤ 10) (htx : gs_tx (I 79)) (hZ : ∀ j, j < 4 → ∃ c, I 83 j = nI c ∧ c ≤ 24) (hk : ∀ I', gs_sd I I' → K (some (.int (gs_like (I 79) (I 82) (I 83) (I 84) a w))) I' (sx_run rw m ln)) : sx_C 199 (d + 9) [.ref 78, .int a, .int w] I (sx_run rw m ln) K := by
  refine sx_enter (by decide +kernel) (Nat.le_of_ble_eq_true rfl) (sx_go m199 60 rfl (fun VV CC hV hC => ?_))
  unfold gs_like at hk
  have bad : (gs_in a 0 (nI 3) = 0 ∨ gs_in w 0 (nI 1) = 0) → K (some (.int (-1000000001))) I (sx_run rw m ln) := by
    intro h
    have := hk I (gs_sd.rf I)
    rw [if_pos h] at this
    exact this
  refine hC _ _ _ _ _ (c_isSheet ⟨fun (c1 : gs_in a 0 (nI 3) = 0) => bad (Or.inl c1), fun (c1 : ¬ gs_in a 0 (nI 3) = 0) => hC _ _ _ _ _ (c_isIn rfl (by decide +kernel) (by decide +kernel) ⟨fun (c2 : ¬ gs_in w 0 (nI 1) = 0) => ?_, fun (c2 : gs_in w 0 (nI 1) = 0) => bad (Or.inr c2)⟩)⟩)
  obtain ⟨j, rfl, _, h3⟩ := gs_in_nat (a := 0) (by decide) c1 (by decide)
  obtain ⟨z, hz, hz24⟩ := hZ j (by omega)
  rw [if_neg (fun h => h.elim c1 c2), nI_clamp (by omega), hz, nI_clamp (by omega), gs_N_eq hn hn10] at hk
  refine ⟨j, ⟨rfl, by omega⟩, fun (c3 : 0 ≤ I 82 j) => hV _ _ _ _ _ _ _ ?_, fun (c3 : ¬ 0 ≤ I 82 j) => ?_⟩
  · rw [if_neg (Int32.not_lt.mpr c3)] at hk
    exact v_like (d := d) hn hn10 htx (by omega) hz hz24 hk n 0 I (by omega) (gs_sd.rf I)
  · have := hk I (gs_sd.rf I)
    rw [if_pos (Int32.not_le.mp c3)] at this
    exact this
end
