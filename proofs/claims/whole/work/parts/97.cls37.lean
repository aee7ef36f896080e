/-! ===== the law: sheets and slots ===== -/
section
variable {I J : sx_I} {rw : Nat → Nat → Option Nat} {u : Nat} {ln : Nat → Nat} {S Z R : Nat → Int32}
theorem lw.sheets (h : lw I rw u ln) (f : ∀ q, (q = 15 ∨ (19 ≤ q ∧ q ≤ 36) ∨ q = 50 ∨ q = 53 ∨ (63 ≤ q ∧ q ≤ 80) ∨ (85 ≤ q ∧ q ≤ 89) ∨ q = 91 ∨ q = 95 ∨ q = 119 ∨ q = 128 ∨ (200 ≤ q ∧ (q - 200) % 3 ≠ 2)) → J q = I q) (hC : lwC J) : lw J rw u ln := by
  obtain ⟨hA, hB, -, hD, hE, hF, hG⟩ := h
  refine ⟨hA.cg (fun q a => f q (by omega)), hB.cg (fun q a => f q (by omega)) ?_ ?_, hC, hD.cg (fun q a => f q (by omega)), hE.cg ?_ ?_ (f 50 (by omega)) (f 91 (by omega)), hF.cg ?_ ?_ (f 53 (by omega)) (f 95 (by omega)), hG.cg ?_ ?_⟩
  · rw [f 15 (by omega)]
  · rw [f 78 (by omega)]
  · rw [f 15 (by omega)]
  · rw [f 78 (by omega)]
  · rw [f 15 (by omega)]
  · rw [f 78 (by omega)]
  · rw [f 80 (by omega)]
  · rw [f 79 (by omega)]
theorem lw.slots (h : lw I rw u ln) (f : ∀ q, (q = 15 ∨ (19 ≤ q ∧ q ≤ 36) ∨ q = 50 ∨ q = 53 ∨ (55 ≤ q ∧ q ≤ 62) ∨ (78 ≤ q ∧ q ≤ 80) ∨ (82 ≤ q ∧ q ≤ 84) ∨ q = 91 ∨ q = 95 ∨ q = 119 ∨ q = 128 ∨ (200 ≤ q ∧ (q - 200) % 3 ≠ 2)) → J q = I q) (hD : lwD J) : lw J rw u ln := by
  obtain ⟨hA, hB, hC, -, hE, hF, hG⟩ := h
  refine ⟨hA.cg (fun q a => f q (by omega)), hB.cg (fun q a => f q (by omega)) ?_ ?_, hC.cg (fun q a => f q (by omega)), hD, hE.cg ?_ ?_ (f 50 (by omega)) (f 91 (by omega)), hF.cg ?_ ?_ (f 53 (by omega)) (f 95 (by omega)), hG.cg ?_ ?_⟩
  · rw [f 15 (by omega)]
  · rw [f 78 (by omega)]
  · rw [f 15 (by omega)]
  · rw [f 78 (by omega)]
  · rw [f 15 (by omega)]
  · rw [f 78 (by omega)]
  · rw [f 80 (by omega)]
  · rw [f 79 (by omega)]
theorem gh_ok.sheet (h : gh_ok S Z R) {j : Nat} {sort v : Int32} (hs : sort = -1 ∨ sort = 0 ∨ sort = nI 1) (hv : ∃ c, v = nI c ∧ c ≤ 24) : gh_ok (upd S j sort) (upd Z j v) (gs_tp R (24 * j) (fun _ => 0) 24) := by
  intro k hk
  obtain ⟨h1, h2, h3⟩ := h k hk
  refine ⟨?_, ?_, fun q hq => ?_⟩
  · by_cases c : k = j
    · rw [c, pk_us]; exact hs
    · rw [pk_un c]; exact h1
  · by_cases c : k = j
    · rw [c, pk_us]; exact hv
    · rw [pk_un c]; exact h2
  · rw [gs_tp_at]
    by_cases c : 24 * j ≤ 24 * k + q ∧ 24 * k + q < 24 * j + 24
    · rw [if_pos c]; exact Or.inr ⟨by decide +kernel, by decide +kernel⟩
    · rw [if_neg c]; exact h3 q hq
theorem gh_num_short (v : Int32) : gh_num v.toInt16.toInt32 := by
  refine Or.inr ⟨?_, ?_⟩
  · rw [Int32.le_iff_toInt_le, Int16.toInt_toInt32]
    have := Int16.le_toInt v.toInt16
    have e1 : (-99999 : Int32).toInt = -99999 := by decide +kernel
    rw [e1]; omega
  · rw [Int32.le_iff_toInt_le, Int16.toInt_toInt32, nI_toInt (by omega)]
    have := Int16.toInt_lt v.toInt16
    omega
theorem gh_ok.mark (h : gh_ok S Z R) {a p v : Int32} : gh_ok S Z (gs_mark S Z R a p v).1 := by
  unfold gs_mark
  by_cases c1 : gs_in a 0 (nI 3) = 0
  · rw [if_pos c1]; exact h
  · rw [if_neg c1]
    by_cases c2 : S a.toNatClampNeg < 0
    · rw [if_pos c2]; exact h
    · rw [if_neg c2]
      by_cases c3 : gs_in p 0 (Z a.toNatClampNeg - nI 1) = 0
      · rw [if_pos c3]; exact h
      · rw [if_neg c3]
        by_cases c4 : S a.toNatClampNeg = 0 ∧ v = -1000000005
        · rw [if_pos c4]; exact h
        · rw [if_neg c4]
          by_cases c5 : S a.toNatClampNeg = nI 1 ∧ ¬ v = -1000000005 ∧ gs_in v (-99999) (nI 99999) = 0
          · rw [if_pos c5]; exact h
          · rw [if_neg c5]
            obtain ⟨j, rfl, -, hj⟩ := gs_in_nat (a := 0) (by omega) c1 (by decide)
            have ej : (nI j).toNatClampNeg = j := nI_clamp (by omega)
            rw [ej] at c2 c3 c4 c5 ⊢
            have hv : gh_num (gs_mkV (S j) v) := by
              unfold gs_mkV
              by_cases z : S j = 0
              · rw [if_pos z, gs_short]; exact gh_num_short v
              · rw [if_neg z]
                have s1 : S j = nI 1 := by
                  rcases (h j (by omega)).1 with y | y | y
                  · rw [y] at c2; exact absurd (show (-1 : Int32) < 0 by decide) c2
                  · exact absurd y z
                  · exact y
                by_cases n : v = -1000000005
                · exact Or.inl n
                · exact Or.inr (gs_in_iff.mp (fun y => c5 ⟨s1, n, y⟩))
            intro k hk
            obtain ⟨h1, h2, h3⟩ := h k hk
            refine ⟨h1, h2, fun q hq => ?_⟩
            show gh_num (upd R (24 * j + p.toNatClampNeg) (gs_mkV (S j) v) (24 * k + q))
            by_cases z : 24 * k + q = 24 * j + p.toNatClampNeg
            · rw [z, pk_us]; exact hv
            · rw [pk_un z]; exact h3 q hq
theorem gh_ok.copy (h : gh_ok S Z R) {a p b q c : Int32} : gh_ok S Z (gs_copy S Z R a p b q c).1 := by
  unfold gs_copy
  by_cases c1 : gs_in a 0 (nI 3) = 0 ∨ gs_in b 0 (nI 3) = 0
  · rw [if_pos c1]; exact h
  · rw [if_neg c1]
    by_cases c2 : S a.toNatClampNeg < 0 ∨ S b.toNatClampNeg < 0
    · rw [if_pos c2]; exact h
    · rw [if_neg c2]
      by_cases c3 : ¬ S a.toNatClampNeg = S b.toNatClampNeg
      · rw [if_pos c3]; exact h
      · rw [if_neg c3]
        by_cases c4 : gs_cpBad p q c (Z a.toNatClampNeg) (Z b.toNatClampNeg)
        · rw [if_pos c4]; exact h
        · rw [if_neg c4]
          obtain ⟨j, rfl, -, hj⟩ := gs_in_nat (a := 0) (by omega) (fun z => c1 (Or.inl z)) (by decide)
          obtain ⟨l, rfl, -, hl⟩ := gs_in_nat (a := 0) (by omega) (fun z => c1 (Or.inr z)) (by decide)
          have ej : (nI j).toNatClampNeg = j := nI_clamp (by omega)
          have el : (nI l).toNatClampNeg = l := nI_clamp (by omega)
          rw [ej, el] at c2 c3 c4 ⊢
          obtain ⟨x, hx, hx24⟩ := (h j (by omega)).2.1
          have hc : p.toNatClampNeg + c.toNatClampNeg ≤ 24 := by
            refine Nat.le_of_not_lt (fun z => c4 (Or.inr (Or.inr (Or.inr (Or.inl ?_)))))
            rw [hx, nI_clamp (by omega)]; omega
          intro k hk
          obtain ⟨h1, h2, h3⟩ := h k hk
          refine ⟨h1, h2, fun r hr => ?_⟩
          show gh_num (va_cpy R R (24 * j + p.toNatClampNeg) (24 * l + q.toNatClampNeg) c.toNatClampNeg (24 * k + r))
          by_cases z : 24 * l + q.toNatClampNeg ≤ 24 * k + r ∧ 24 * k + r < 24 * l + q.toNatClampNeg + c.toNatClampNeg
          · have e : va_cpy R R (24 * j + p.toNatClampNeg) (24 * l + q.toNatClampNeg) c.toNatClampNeg (24 * k + r) = R (24 * j + p.toNatClampNeg + (24 * k + r - (24 * l + q.toNatClampNeg))) := if_pos z
            rw [e, show 24 * j + p.toNatClampNeg + (24 * k + r - (24 * l + q.toNatClampNeg)) = 24 * j + (p.toNatClampNeg + (24 * k + r - (24 * l + q.toNatClampNeg))) by omega]
            exact (h j (by omega)).2.2 _ (by omega)
          · have e : va_cpy R R (24 * j + p.toNatClampNeg) (24 * l + q.toNatClampNeg) c.toNatClampNeg (24 * k + r) = R (24 * k + r) := if_neg z
            rw [e]; exact h3 r hr
theorem gs_layI_at (I : sx_I) (j : Nat) (t k : Int32) : (gs_layI I j t k) 85 = upd (I 85) j t ∧ (gs_layI I j t k) 86 = upd (I 86) j (if t = nI 1 then I 79 (12 + 5 * k.toNatClampNeg + 0) else k) ∧ (gs_layI I j t k) 87 = upd (I 87) j (if t = nI 1 then gs_worth (I 79 (12 + 5 * k.toNatClampNeg + 0)) (I 79 (12 + 5 * k.toNatClampNeg + 2)) else nI 0) ∧
    (gs_layI I j t k) 88 = (if t = nI 2 then upd (I 88) j (I 83 k.toNatClampNeg) else I 88) ∧ (gs_layI I j t k) 89 = (if t = nI 2 then gs_tp (I 89) (24 * j) (fun i => I 84 (24 * k.toNatClampNeg + i)) 24 else I 89) ∧ ∀ q, (q < 85 ∨ 89 < q) → (gs_layI I j t k) q = I q := by
  have base : ∀ J1 J2 J3 : sx_I, J1 = gs_layA I j t → J2 = gs_layB J1 j t k → J3 = gs_layC J2 j t k → (J3 85 = upd (I 85) j t ∧ J3 86 = upd (I 86) j (if t = nI 1 then I 79 (12 + 5 * k.toNatClampNeg + 0) else k) ∧ J3 87 = upd (I 87) j (if t = nI 1 then gs_worth (I 79 (12 + 5 * k.toNatClampNeg + 0)) (I 79 (12 + 5 * k.toNatClampNeg + 2)) else nI 0)) ∧ ∀ q, (q < 85 ∨ 87 < q) → J3 q = I q := by
    intro J1 J2 J3 e1 e2 e3
    have f1 : ∀ q, q ≠ 85 → J1 q = I q := fun q hq => by rw [e1]; exact sx_up_ne hq
    have f2 : ∀ q, q ≠ 86 → J2 q = J1 q := fun q hq => by rw [e2]; exact sx_up_ne hq
    have f3 : ∀ q, q ≠ 87 → J3 q = J2 q := fun q hq => by rw [e3]; exact sx_up_ne hq
    refine ⟨⟨?_, ?_, ?_⟩, fun q hq => by rw [f3 q (by omega), f2 q (by omega), f1 q (by omega)]⟩
    · rw [f3 85 (by decide), f2 85 (by decide), e1]; exact sx_up_same _ _ _
    · rw [f3 86 (by decide), e2]; unfold gs_layB; rw [sx_up_same, f1 86 (by decide), f1 79 (by decide)]
    · rw [e3]; unfold gs_layC; rw [sx_up_same, f2 87 (by decide), f1 87 (by decide), f2 79 (by decide), f1 79 (by decide)]
  obtain ⟨⟨b1, b2, b3⟩, b4⟩ := base _ _ _ rfl rfl rfl
  unfold gs_layI
  generalize gs_layC (gs_layB (gs_layA I j t) j t k) j t k = J at *
  unfold gs_layD
  by_cases c : t = nI 2
  · rw [if_pos c]
    refine ⟨?_, ?_, ?_, ?_, ?_, fun q hq => ?_⟩
    · rw [sx_up_ne (by decide), sx_up_ne (by decide)]; exact b1
    · rw [sx_up_ne (by decide), sx_up_ne (by decide)]; exact b2
    · rw [sx_up_ne (by decide), sx_up_ne (by decide)]; exact b3
    · rw [if_pos c, sx_up_ne (by decide), sx_up_same, b4 88 (by omega), b4 83 (by omega)]
    · rw [if_pos c, sx_up_same, b4 89 (by omega), b4 84 (by omega)]
    · rw [sx_up_ne (by omega), sx_up_ne (by omega)]; exact b4 q (by omega)
  · rw [if_neg c]
    exact ⟨b1, b2, b3, by rw [if_neg c]; exact b4 88 (by omega), by rw [if_neg c]; exact b4 89 (by omega), fun q hq => b4 q (by omega)⟩
end
