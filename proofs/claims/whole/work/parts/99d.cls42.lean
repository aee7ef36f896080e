/-! ===== the constructors: the class and the reference ===== -/
def iJ0 (I : sx_I) : Prop := (I 15 4 = 0 ∧ I 15 7 = 0 ∧ I 15 11 = 0) ∧ (I 19 1 = 0 ∧ I 19 9 = 0 ∧ I 19 10 = nI 1 ∧ I 119 1 = 0) ∧ (∀ w, w < 5 → I (20 + w) = fun _ => 0) ∧ (I 25 0 = nI 3 ∧ I 25 1 = nI 30 ∧ I 25 2 = nI 200 ∧ I 25 3 = nI 20) ∧ (∀ w, w < 3 → I 26 w = 0) ∧ (∀ w, w < 3 → I 27 w = -1000000005)
theorem iJ0.cg {I J : sx_I} (h : iJ0 I) (hJ : ∀ q, (q < 55 ∨ q = 119) → J q = I q) : iJ0 J := by
  obtain ⟨h1, h2, h3, h4, h5, h6⟩ := h
  refine ⟨?_, ?_, fun w hw => ?_, ?_, fun w hw => ?_, fun w hw => ?_⟩
  · rw [hJ 15 (by omega)]; exact h1
  · rw [hJ 19 (by omega), hJ 119 (by omega)]; exact h2
  · rw [hJ _ (by omega)]; exact h3 w hw
  · rw [hJ 25 (by omega)]; exact h4
  · rw [hJ 26 (by omega)]; exact h5 w hw
  · rw [hJ 27 (by omega)]; exact h6 w hw
def iS (i : Nat) (I : sx_I) : Prop := ∀ j, j < i → I (55 + 2 * j) 0 = -1 ∧ I (55 + 2 * j) 1 = 0 ∧ I (56 + 2 * j) = fun _ => 0
def iL (i : Nat) (I : sx_I) : Prop := ∀ j, j < i → I (63 + 3 * j) 0 = 0
def iR1 (i : Nat) (R : Nat → Nat → Option Nat) : Prop := (∀ q, 15 ≤ q → q < 55 + 2 * i → q ≠ 51 → q ≠ 52 → R q = sx_mkR (fun _ _ => none) q) ∧ (∀ q, 55 + 2 * i ≤ q → q < 100 → R q = fun _ => none) ∧ (∀ j, R 51 j = if j < i then some (55 + 2 * j) else none) ∧ (R 52 = fun _ => none) ∧ (∀ q, 100 ≤ q → q < 200 → R q = sx_mkR (fun _ _ => none) q)
def iR2 (i : Nat) (R : Nat → Nat → Option Nat) : Prop := (∀ q, 15 ≤ q → q < 63 + 3 * i → q ≠ 52 → R q = sx_mkR (fun _ _ => none) q) ∧ (∀ q, 63 + 3 * i ≤ q → q < 100 → R q = fun _ => none) ∧ (∀ j, R 52 j = if j < i then some (63 + 3 * j) else none) ∧ (∀ q, 100 ≤ q → q < 200 → R q = sx_mkR (fun _ _ => none) q)
theorem iR51 : (fun j => if j < 4 then some (55 + 2 * j) else none) = sx_mkR (fun _ _ => none) 51 := by
  funext k
  match k with
  | 0 => rfl
  | 1 => rfl
  | 2 => rfl
  | 3 => rfl
  | k + 4 => exact if_neg (by omega)
theorem iR52 : (fun j => if j < 5 then some (63 + 3 * j) else none) = sx_mkR (fun _ _ => none) 52 := by
  funext k
  match k with
  | 0 => rfl
  | 1 => rfl
  | 2 => rfl
  | 3 => rfl
  | 4 => rfl
  | k + 5 => exact if_neg (by omega)
section
variable {d : Nat} {I : sx_I} {R : Nat → Nat → Option Nat} {ln : Nat → Nat} {K : sx_K}
theorem v_sl_78 (hR : iR2 5 R) (h0 : iJ0 I) (hS : iS 4 I) (hL : iL 5 I) (hk : ∀ J R', (∀ q, 15 ≤ q → q < 78 → R' q = sx_mkR (fun _ _ => none) q) → (∀ q, 78 ≤ q → q < 100 → R' q = fun _ => none) → (∀ q, 100 ≤ q → q < 200 → R' q = sx_mkR (fun _ _ => none) q) → iJ0 J → iS 4 J → iL 5 J → K none J (R', .inl 81, ln)) :
    sx_V 58 (d + 3) 0 0 K 131 [(0, .ref 15), (1, .int (nI 5))] [] I (R, .inl 81, ln) := by
  refine sx_go m58 100 rfl (fun VV CC hV hC => ?_)
  refine ⟨fun _ => hk I R (fun q h1 h2 => ?_) hR.2.1 hR.2.2.2 h0 hS hL, fun (c : ¬ nI 5 ≤ nI 5) => absurd (Int32.le_refl _) c⟩
  by_cases z : q = 52
  · rw [z, ← iR52]; exact funext hR.2.2.1
  · exact hR.1 q h1 (by omega) z
theorem v_sl_75 (hR : iR2 4 R) (h0 : iJ0 I) (hS : iS 4 I) (hL : iL 4 I) (hk : ∀ J R', (∀ q, 15 ≤ q → q < 78 → R' q = sx_mkR (fun _ _ => none) q) → (∀ q, 78 ≤ q → q < 100 → R' q = fun _ => none) → (∀ q, 100 ≤ q → q < 200 → R' q = sx_mkR (fun _ _ => none) q) → iJ0 J → iS 4 J → iL 5 J → K none J (R', .inl 81, ln)) :
    sx_V 58 (d + 3) (3 * (5 - 4)) (32 * (5 - 4)) K 131 [(0, .ref 15), (1, .int (nI 4))] [] I (R, .inl 78, ln) := by
  have r15 : R 15 9 = some 52 := by rw [hR.1 15 (by omega) (by omega) (by omega)]; rfl
  have rS : R 75 = fun _ => none := hR.2.1 75 (by omega) (by omega)
  have fin : ∀ J R', (∀ q, (q < 75 ∨ 77 < q) → J q = sx_up I 75 (fun _ => 0) q) → J 75 0 = 0 → R' = sx_upR (sx_upR (sx_upR (sx_upR R 75 (fun _ => none)) 76 (sx_mkR (fun _ _ => none) 76)) 75 (sx_mkR (fun _ _ => none) 75)) 52 (fun j => if j = 4 then some 75 else R 52 j) →
      sx_V 58 (d + 3) (3 * (5 - (4 + 1))) (32 * (5 - (4 + 1))) K 131 [(0, .ref 15), (1, .int (nI 4 + nI 1))] [] J (R', .inl (80 + 1), ln) := by
    intro J R' hJ hJ0 e
    rw [nI_add]
    have g : ∀ q, (q < 75 ∨ 77 < q) → J q = I q := fun q hq => (hJ q hq).trans (sx_up_ne (by omega))
    refine v_sl_78 ⟨fun q h1 h2 h3 => ?_, fun q hq hq2 => ?_, fun j => ?_, fun q h1 h2 => ?_⟩ (h0.cg (fun q hq => g q (by omega))) (fun j hj => ?_) (fun j hj => ?_) hk
    · rw [e, sx_upR_ne h3]
      by_cases z : q = 75
      · rw [z, sx_upR_same]
      · rw [sx_upR_ne z]
        by_cases z1 : q = 76
        · rw [z1, sx_upR_same]
        · rw [sx_upR_ne z1, sx_upR_ne z]
          by_cases z2 : q = 77
          · rw [z2, hR.2.1 77 (by omega) (by omega)]; rfl
          · exact hR.1 q h1 (by omega) h3
    · rw [e, sx_upR_ne (by omega), sx_upR_ne (by omega), sx_upR_ne (by omega), sx_upR_ne (by omega)]
      exact hR.2.1 q (by omega) hq2
    · rw [e, sx_upR_same]
      show (if j = 4 then some 75 else R 52 j) = _
      by_cases z : j = 4
      · rw [z]; rfl
      · rw [if_neg z, hR.2.2.1 j]
        by_cases z2 : j < 4
        · rw [if_pos z2, if_pos (by omega)]
        · rw [if_neg z2, if_neg (by omega)]
    · rw [e, sx_upR_ne (by omega), sx_upR_ne (by omega), sx_upR_ne (by omega), sx_upR_ne (by omega)]
      exact hR.2.2.2 q h1 h2
    · have := hS j hj
      rw [g _ (by omega), g _ (by omega)]; exact this
    · by_cases z : j = 4
      · rw [z]; exact hJ0
      · rw [g _ (by omega)]; exact hL j (by omega)
  refine sx_go m58 100 rfl (fun VV CC hV hC => ?_)
  refine ⟨fun (c : nI 5 ≤ nI 4) => absurd ((nI_leI (by omega) (by omega)).mp c) (by omega), fun _ => ?_⟩
  refine sx_s_al (cs := x58_137) rfl ?_
  refine sx_s_getr (cs := x58_140) rfl rfl r15 ?_
  refine hC _ _ _ _ _ (i_slot_75 (d := d) rfl rfl (fun J hJ hJ0 => ⟨4, ⟨rfl, by omega⟩, hV _ _ _ _ _ _ _ ?_⟩))
  exact fin J _ hJ hJ0 rfl
theorem v_sl_72 (hR : iR2 3 R) (h0 : iJ0 I) (hS : iS 4 I) (hL : iL 3 I) (hk : ∀ J R', (∀ q, 15 ≤ q → q < 78 → R' q = sx_mkR (fun _ _ => none) q) → (∀ q, 78 ≤ q → q < 100 → R' q = fun _ => none) → (∀ q, 100 ≤ q → q < 200 → R' q = sx_mkR (fun _ _ => none) q) → iJ0 J → iS 4 J → iL 5 J → K none J (R', .inl 81, ln)) :
    sx_V 58 (d + 3) (3 * (5 - 3)) (32 * (5 - 3)) K 131 [(0, .ref 15), (1, .int (nI 3))] [] I (R, .inl 75, ln) := by
  have r15 : R 15 9 = some 52 := by rw [hR.1 15 (by omega) (by omega) (by omega)]; rfl
  have rS : R 72 = fun _ => none := hR.2.1 72 (by omega) (by omega)
  have fin : ∀ J R', (∀ q, (q < 72 ∨ 74 < q) → J q = sx_up I 72 (fun _ => 0) q) → J 72 0 = 0 → R' = sx_upR (sx_upR (sx_upR (sx_upR R 72 (fun _ => none)) 73 (sx_mkR (fun _ _ => none) 73)) 72 (sx_mkR (fun _ _ => none) 72)) 52 (fun j => if j = 3 then some 72 else R 52 j) →
      sx_V 58 (d + 3) (3 * (5 - (3 + 1))) (32 * (5 - (3 + 1))) K 131 [(0, .ref 15), (1, .int (nI 3 + nI 1))] [] J (R', .inl (77 + 1), ln) := by
    intro J R' hJ hJ0 e
    rw [nI_add]
    have g : ∀ q, (q < 72 ∨ 74 < q) → J q = I q := fun q hq => (hJ q hq).trans (sx_up_ne (by omega))
    refine v_sl_75 ⟨fun q h1 h2 h3 => ?_, fun q hq hq2 => ?_, fun j => ?_, fun q h1 h2 => ?_⟩ (h0.cg (fun q hq => g q (by omega))) (fun j hj => ?_) (fun j hj => ?_) hk
    · rw [e, sx_upR_ne h3]
      by_cases z : q = 72
      · rw [z, sx_upR_same]
      · rw [sx_upR_ne z]
        by_cases z1 : q = 73
        · rw [z1, sx_upR_same]
        · rw [sx_upR_ne z1, sx_upR_ne z]
          by_cases z2 : q = 74
          · rw [z2, hR.2.1 74 (by omega) (by omega)]; rfl
          · exact hR.1 q h1 (by omega) h3
    · rw [e, sx_upR_ne (by omega), sx_upR_ne (by omega), sx_upR_ne (by omega), sx_upR_ne (by omega)]
      exact hR.2.1 q (by omega) hq2
    · rw [e, sx_upR_same]
      show (if j = 3 then some 72 else R 52 j) = _
      by_cases z : j = 3
      · rw [z]; rfl
      · rw [if_neg z, hR.2.2.1 j]
        by_cases z2 : j < 3
        · rw [if_pos z2, if_pos (by omega)]
        · rw [if_neg z2, if_neg (by omega)]
    · rw [e, sx_upR_ne (by omega), sx_upR_ne (by omega), sx_upR_ne (by omega), sx_upR_ne (by omega)]
      exact hR.2.2.2 q h1 h2
    · have := hS j hj
      rw [g _ (by omega), g _ (by omega)]; exact this
    · by_cases z : j = 3
      · rw [z]; exact hJ0
      · rw [g _ (by omega)]; exact hL j (by omega)
  refine sx_go m58 100 rfl (fun VV CC hV hC => ?_)
  refine ⟨fun (c : nI 5 ≤ nI 3) => absurd ((nI_leI (by omega) (by omega)).mp c) (by omega), fun _ => ?_⟩
  refine sx_s_al (cs := x58_137) rfl ?_
  refine sx_s_getr (cs := x58_140) rfl rfl r15 ?_
  refine hC _ _ _ _ _ (i_slot_72 (d := d) rfl rfl (fun J hJ hJ0 => ⟨3, ⟨rfl, by omega⟩, hV _ _ _ _ _ _ _ ?_⟩))
  exact fin J _ hJ hJ0 rfl
theorem v_sl_69 (hR : iR2 2 R) (h0 : iJ0 I) (hS : iS 4 I) (hL : iL 2 I) (hk : ∀ J R', (∀ q, 15 ≤ q → q < 78 → R' q = sx_mkR (fun _ _ => none) q) → (∀ q, 78 ≤ q → q < 100 → R' q = fun _ => none) → (∀ q, 100 ≤ q → q < 200 → R' q = sx_mkR (fun _ _ => none) q) → iJ0 J → iS 4 J → iL 5 J → K none J (R', .inl 81, ln)) :
    sx_V 58 (d + 3) (3 * (5 - 2)) (32 * (5 - 2)) K 131 [(0, .ref 15), (1, .int (nI 2))] [] I (R, .inl 72, ln) := by
  have r15 : R 15 9 = some 52 := by rw [hR.1 15 (by omega) (by omega) (by omega)]; rfl
  have rS : R 69 = fun _ => none := hR.2.1 69 (by omega) (by omega)
  have fin : ∀ J R', (∀ q, (q < 69 ∨ 71 < q) → J q = sx_up I 69 (fun _ => 0) q) → J 69 0 = 0 → R' = sx_upR (sx_upR (sx_upR (sx_upR R 69 (fun _ => none)) 70 (sx_mkR (fun _ _ => none) 70)) 69 (sx_mkR (fun _ _ => none) 69)) 52 (fun j => if j = 2 then some 69 else R 52 j) →
      sx_V 58 (d + 3) (3 * (5 - (2 + 1))) (32 * (5 - (2 + 1))) K 131 [(0, .ref 15), (1, .int (nI 2 + nI 1))] [] J (R', .inl (74 + 1), ln) := by
    intro J R' hJ hJ0 e
    rw [nI_add]
    have g : ∀ q, (q < 69 ∨ 71 < q) → J q = I q := fun q hq => (hJ q hq).trans (sx_up_ne (by omega))
    refine v_sl_72 ⟨fun q h1 h2 h3 => ?_, fun q hq hq2 => ?_, fun j => ?_, fun q h1 h2 => ?_⟩ (h0.cg (fun q hq => g q (by omega))) (fun j hj => ?_) (fun j hj => ?_) hk
    · rw [e, sx_upR_ne h3]
      by_cases z : q = 69
      · rw [z, sx_upR_same]
      · rw [sx_upR_ne z]
        by_cases z1 : q = 70
        · rw [z1, sx_upR_same]
        · rw [sx_upR_ne z1, sx_upR_ne z]
          by_cases z2 : q = 71
          · rw [z2, hR.2.1 71 (by omega) (by omega)]; rfl
          · exact hR.1 q h1 (by omega) h3
    · rw [e, sx_upR_ne (by omega), sx_upR_ne (by omega), sx_upR_ne (by omega), sx_upR_ne (by omega)]
      exact hR.2.1 q (by omega) hq2
    · rw [e, sx_upR_same]
      show (if j = 2 then some 69 else R 52 j) = _
      by_cases z : j = 2
      · rw [z]; rfl
      · rw [if_neg z, hR.2.2.1 j]
        by_cases z2 : j < 2
        · rw [if_pos z2, if_pos (by omega)]
        · rw [if_neg z2, if_neg (by omega)]
    · rw [e, sx_upR_ne (by omega), sx_upR_ne (by omega), sx_upR_ne (by omega), sx_upR_ne (by omega)]
      exact hR.2.2.2 q h1 h2
    · have := hS j hj
      rw [g _ (by omega), g _ (by omega)]; exact this
    · by_cases z : j = 2
      · rw [z]; exact hJ0
      · rw [g _ (by omega)]; exact hL j (by omega)
  refine sx_go m58 100 rfl (fun VV CC hV hC => ?_)
  refine ⟨fun (c : nI 5 ≤ nI 2) => absurd ((nI_leI (by omega) (by omega)).mp c) (by omega), fun _ => ?_⟩
  refine sx_s_al (cs := x58_137) rfl ?_
  refine sx_s_getr (cs := x58_140) rfl rfl r15 ?_
  refine hC _ _ _ _ _ (i_slot_69 (d := d) rfl rfl (fun J hJ hJ0 => ⟨2, ⟨rfl, by omega⟩, hV _ _ _ _ _ _ _ ?_⟩))
  exact fin J _ hJ hJ0 rfl
theorem v_sl_66 (hR : iR2 1 R) (h0 : iJ0 I) (hS : iS 4 I) (hL : iL 1 I) (hk : ∀ J R', (∀ q, 15 ≤ q → q < 78 → R' q = sx_mkR (fun _ _ => none) q) → (∀ q, 78 ≤ q → q < 100 → R' q = fun _ => none) → (∀ q, 100 ≤ q → q < 200 → R' q = sx_mkR (fun _ _ => none) q) → iJ0 J → iS 4 J → iL 5 J → K none J (R', .inl 81, ln)) :
    sx_V 58 (d + 3) (3 * (5 - 1)) (32 * (5 - 1)) K 131 [(0, .ref 15), (1, .int (nI 1))] [] I (R, .inl 69, ln) := by
  have r15 : R 15 9 = some 52 := by rw [hR.1 15 (by omega) (by omega) (by omega)]; rfl
  have rS : R 66 = fun _ => none := hR.2.1 66 (by omega) (by omega)
  have fin : ∀ J R', (∀ q, (q < 66 ∨ 68 < q) → J q = sx_up I 66 (fun _ => 0) q) → J 66 0 = 0 → R' = sx_upR (sx_upR (sx_upR (sx_upR R 66 (fun _ => none)) 67 (sx_mkR (fun _ _ => none) 67)) 66 (sx_mkR (fun _ _ => none) 66)) 52 (fun j => if j = 1 then some 66 else R 52 j) →
      sx_V 58 (d + 3) (3 * (5 - (1 + 1))) (32 * (5 - (1 + 1))) K 131 [(0, .ref 15), (1, .int (nI 1 + nI 1))] [] J (R', .inl (71 + 1), ln) := by
    intro J R' hJ hJ0 e
    rw [nI_add]
    have g : ∀ q, (q < 66 ∨ 68 < q) → J q = I q := fun q hq => (hJ q hq).trans (sx_up_ne (by omega))
    refine v_sl_69 ⟨fun q h1 h2 h3 => ?_, fun q hq hq2 => ?_, fun j => ?_, fun q h1 h2 => ?_⟩ (h0.cg (fun q hq => g q (by omega))) (fun j hj => ?_) (fun j hj => ?_) hk
    · rw [e, sx_upR_ne h3]
      by_cases z : q = 66
      · rw [z, sx_upR_same]
      · rw [sx_upR_ne z]
        by_cases z1 : q = 67
        · rw [z1, sx_upR_same]
        · rw [sx_upR_ne z1, sx_upR_ne z]
          by_cases z2 : q = 68
          · rw [z2, hR.2.1 68 (by omega) (by omega)]; rfl
          · exact hR.1 q h1 (by omega) h3
    · rw [e, sx_upR_ne (by omega), sx_upR_ne (by omega), sx_upR_ne (by omega), sx_upR_ne (by omega)]
      exact hR.2.1 q (by omega) hq2
    · rw [e, sx_upR_same]
      show (if j = 1 then some 66 else R 52 j) = _
      by_cases z : j = 1
      · rw [z]; rfl
      · rw [if_neg z, hR.2.2.1 j]
        by_cases z2 : j < 1
        · rw [if_pos z2, if_pos (by omega)]
        · rw [if_neg z2, if_neg (by omega)]
    · rw [e, sx_upR_ne (by omega), sx_upR_ne (by omega), sx_upR_ne (by omega), sx_upR_ne (by omega)]
      exact hR.2.2.2 q h1 h2
    · have := hS j hj
      rw [g _ (by omega), g _ (by omega)]; exact this
    · by_cases z : j = 1
      · rw [z]; exact hJ0
      · rw [g _ (by omega)]; exact hL j (by omega)
  refine sx_go m58 100 rfl (fun VV CC hV hC => ?_)
  refine ⟨fun (c : nI 5 ≤ nI 1) => absurd ((nI_leI (by omega) (by omega)).mp c) (by omega), fun _ => ?_⟩
  refine sx_s_al (cs := x58_137) rfl ?_
  refine sx_s_getr (cs := x58_140) rfl rfl r15 ?_
  refine hC _ _ _ _ _ (i_slot_66 (d := d) rfl rfl (fun J hJ hJ0 => ⟨1, ⟨rfl, by omega⟩, hV _ _ _ _ _ _ _ ?_⟩))
  exact fin J _ hJ hJ0 rfl
theorem v_sl_63 (hR : iR2 0 R) (h0 : iJ0 I) (hS : iS 4 I) (hL : iL 0 I) (hk : ∀ J R', (∀ q, 15 ≤ q → q < 78 → R' q = sx_mkR (fun _ _ => none) q) → (∀ q, 78 ≤ q → q < 100 → R' q = fun _ => none) → (∀ q, 100 ≤ q → q < 200 → R' q = sx_mkR (fun _ _ => none) q) → iJ0 J → iS 4 J → iL 5 J → K none J (R', .inl 81, ln)) :
    sx_V 58 (d + 3) (3 * (5 - 0)) (32 * (5 - 0)) K 131 [(0, .ref 15), (1, .int (nI 0))] [] I (R, .inl 66, ln) := by
  have r15 : R 15 9 = some 52 := by rw [hR.1 15 (by omega) (by omega) (by omega)]; rfl
  have rS : R 63 = fun _ => none := hR.2.1 63 (by omega) (by omega)
  have fin : ∀ J R', (∀ q, (q < 63 ∨ 65 < q) → J q = sx_up I 63 (fun _ => 0) q) → J 63 0 = 0 → R' = sx_upR (sx_upR (sx_upR (sx_upR R 63 (fun _ => none)) 64 (sx_mkR (fun _ _ => none) 64)) 63 (sx_mkR (fun _ _ => none) 63)) 52 (fun j => if j = 0 then some 63 else R 52 j) →
      sx_V 58 (d + 3) (3 * (5 - (0 + 1))) (32 * (5 - (0 + 1))) K 131 [(0, .ref 15), (1, .int (nI 0 + nI 1))] [] J (R', .inl (68 + 1), ln) := by
    intro J R' hJ hJ0 e
    rw [nI_add]
    have g : ∀ q, (q < 63 ∨ 65 < q) → J q = I q := fun q hq => (hJ q hq).trans (sx_up_ne (by omega))
    refine v_sl_66 ⟨fun q h1 h2 h3 => ?_, fun q hq hq2 => ?_, fun j => ?_, fun q h1 h2 => ?_⟩ (h0.cg (fun q hq => g q (by omega))) (fun j hj => ?_) (fun j hj => ?_) hk
    · rw [e, sx_upR_ne h3]
      by_cases z : q = 63
      · rw [z, sx_upR_same]
      · rw [sx_upR_ne z]
        by_cases z1 : q = 64
        · rw [z1, sx_upR_same]
        · rw [sx_upR_ne z1, sx_upR_ne z]
          by_cases z2 : q = 65
          · rw [z2, hR.2.1 65 (by omega) (by omega)]; rfl
          · exact hR.1 q h1 (by omega) h3
    · rw [e, sx_upR_ne (by omega), sx_upR_ne (by omega), sx_upR_ne (by omega), sx_upR_ne (by omega)]
      exact hR.2.1 q (by omega) hq2
    · rw [e, sx_upR_same]
      show (if j = 0 then some 63 else R 52 j) = _
      by_cases z : j = 0
      · rw [z]; rfl
      · rw [if_neg z, hR.2.2.1 j]
        by_cases z2 : j < 0
        · rw [if_pos z2, if_pos (by omega)]
        · rw [if_neg z2, if_neg (by omega)]
    · rw [e, sx_upR_ne (by omega), sx_upR_ne (by omega), sx_upR_ne (by omega), sx_upR_ne (by omega)]
      exact hR.2.2.2 q h1 h2
    · have := hS j hj
      rw [g _ (by omega), g _ (by omega)]; exact this
    · by_cases z : j = 0
      · rw [z]; exact hJ0
      · rw [g _ (by omega)]; exact hL j (by omega)
  refine sx_go m58 100 rfl (fun VV CC hV hC => ?_)
  refine ⟨fun (c : nI 5 ≤ nI 0) => absurd ((nI_leI (by omega) (by omega)).mp c) (by omega), fun _ => ?_⟩
  refine sx_s_al (cs := x58_137) rfl ?_
  refine sx_s_getr (cs := x58_140) rfl rfl r15 ?_
  refine hC _ _ _ _ _ (i_slot_63 (d := d) rfl rfl (fun J hJ hJ0 => ⟨0, ⟨rfl, by omega⟩, hV _ _ _ _ _ _ _ ?_⟩))
  exact fin J _ hJ hJ0 rfl
theorem v_sh_63 (hR : iR1 4 R) (h0 : iJ0 I) (hS : iS 4 I) (hk : ∀ J R', (∀ q, 15 ≤ q → q < 78 → R' q = sx_mkR (fun _ _ => none) q) → (∀ q, 78 ≤ q → q < 100 → R' q = fun _ => none) → (∀ q, 100 ≤ q → q < 200 → R' q = sx_mkR (fun _ _ => none) q) → iJ0 J → iS 4 J → iL 5 J → K none J (R', .inl 81, ln)) :
    sx_V 58 (d + 3) 15 160 K 105 [(0, .ref 15), (1, .int (nI 4))] [] I (R, .inl 66, ln) := by
  refine sx_go m58 100 rfl (fun VV CC hV hC => ?_)
  refine ⟨fun _ => hV _ _ _ _ _ _ _ (v_sl_63 (d := d) ⟨fun q h1 h2 h3 => ?_, fun q hq hq2 => hR.2.1 q (by omega) hq2, fun j => ?_, hR.2.2.2.2⟩ h0 hS (fun j hj => absurd hj (Nat.not_lt_zero j)) hk), fun (c : ¬ nI 4 ≤ nI 4) => absurd (Int32.le_refl _) c⟩
  · by_cases z : q = 51
    · rw [z, ← iR51]; exact funext hR.2.2.1
    · exact hR.1 q h1 (by omega) z h3
  · rw [hR.2.2.2.1, if_neg (Nat.not_lt_zero j)]
theorem v_sh_61 (hR : iR1 3 R) (h0 : iJ0 I) (hS : iS 3 I) (hk : ∀ J R', (∀ q, 15 ≤ q → q < 78 → R' q = sx_mkR (fun _ _ => none) q) → (∀ q, 78 ≤ q → q < 100 → R' q = fun _ => none) → (∀ q, 100 ≤ q → q < 200 → R' q = sx_mkR (fun _ _ => none) q) → iJ0 J → iS 4 J → iL 5 J → K none J (R', .inl 81, ln)) :
    sx_V 58 (d + 3) (15 + 2 * (4 - 3)) (160 + 27 * (4 - 3)) K 105 [(0, .ref 15), (1, .int (nI 3))] [] I (R, .inl 64, ln) := by
  have r15 : R 15 8 = some 51 := by rw [hR.1 15 (by omega) (by omega) (by omega) (by omega)]; rfl
  have fin : ∀ J R', (∀ q, q ≠ 61 → q ≠ 62 → J q = sx_up I 61 (fun _ => 0) q) → J 61 0 = -1 → J 61 1 = 0 → J 62 = (fun _ => 0) → R' = sx_upR (sx_upR (sx_upR R 61 (fun _ => none)) 61 (sx_mkR (fun _ _ => none) 61)) 51 (fun j => if j = 3 then some 61 else R 51 j) →
      sx_V 58 (d + 3) (15 + 2 * (4 - (3 + 1))) (160 + 27 * (4 - (3 + 1))) K 105 [(0, .ref 15), (1, .int (nI 3 + nI 1))] [] J (R', .inl (65 + 1), ln) := by
    intro J R' hJ j0 j1 j2 e
    rw [nI_add]
    have g : ∀ q, q ≠ 61 → q ≠ 62 → J q = I q := fun q a b => (hJ q a b).trans (sx_up_ne a)
    refine v_sh_63 ⟨fun q h1 h2 h3 h4 => ?_, fun q hq hq2 => ?_, fun j => ?_, ?_, fun q h1 h2 => ?_⟩ (h0.cg (fun q hq => g q (by omega) (by omega))) (fun j hj => ?_) hk
    · rw [e, sx_upR_ne h3]
      by_cases z : q = 61
      · rw [z, sx_upR_same]
      · rw [sx_upR_ne z, sx_upR_ne z]
        by_cases z1 : q = 62
        · rw [z1, hR.2.1 62 (by omega) (by omega)]; rfl
        · exact hR.1 q h1 (by omega) h3 h4
    · rw [e, sx_upR_ne (by omega), sx_upR_ne (by omega), sx_upR_ne (by omega)]
      exact hR.2.1 q (by omega) hq2
    · rw [e, sx_upR_same]
      show (if j = 3 then some 61 else R 51 j) = _
      by_cases z : j = 3
      · rw [z]; rfl
      · rw [if_neg z, hR.2.2.1 j]
        by_cases z2 : j < 3
        · rw [if_pos z2, if_pos (by omega)]
        · rw [if_neg z2, if_neg (by omega)]
    · rw [e, sx_upR_ne (by omega), sx_upR_ne (by omega), sx_upR_ne (by omega)]
      exact hR.2.2.2.1
    · rw [e, sx_upR_ne (by omega), sx_upR_ne (by omega), sx_upR_ne (by omega)]
      exact hR.2.2.2.2 q h1 h2
    · by_cases z : j = 3
      · rw [z]; exact ⟨j0, j1, j2⟩
      · have := hS j (by omega)
        rw [g _ (by omega) (by omega), g _ (by omega) (by omega)]; exact this
  refine sx_go m58 100 rfl (fun VV CC hV hC => ?_)
  refine ⟨fun (c : nI 4 ≤ nI 3) => absurd ((nI_leI (by omega) (by omega)).mp c) (by omega), fun _ => ?_⟩
  refine sx_s_al (cs := x58_111) rfl ?_
  refine sx_s_getr (cs := x58_114) rfl rfl r15 ?_
  refine hC _ _ _ _ _ (i_sheet_61 (d := d + 1) rfl (fun J hJ j0 j1 j2 => ⟨3, ⟨rfl, by omega⟩, hV _ _ _ _ _ _ _ ?_⟩))
  exact fin J _ hJ j0 j1 j2 rfl
theorem v_sh_59 (hR : iR1 2 R) (h0 : iJ0 I) (hS : iS 2 I) (hk : ∀ J R', (∀ q, 15 ≤ q → q < 78 → R' q = sx_mkR (fun _ _ => none) q) → (∀ q, 78 ≤ q → q < 100 → R' q = fun _ => none) → (∀ q, 100 ≤ q → q < 200 → R' q = sx_mkR (fun _ _ => none) q) → iJ0 J → iS 4 J → iL 5 J → K none J (R', .inl 81, ln)) :
    sx_V 58 (d + 3) (15 + 2 * (4 - 2)) (160 + 27 * (4 - 2)) K 105 [(0, .ref 15), (1, .int (nI 2))] [] I (R, .inl 62, ln) := by
  have r15 : R 15 8 = some 51 := by rw [hR.1 15 (by omega) (by omega) (by omega) (by omega)]; rfl
  have fin : ∀ J R', (∀ q, q ≠ 59 → q ≠ 60 → J q = sx_up I 59 (fun _ => 0) q) → J 59 0 = -1 → J 59 1 = 0 → J 60 = (fun _ => 0) → R' = sx_upR (sx_upR (sx_upR R 59 (fun _ => none)) 59 (sx_mkR (fun _ _ => none) 59)) 51 (fun j => if j = 2 then some 59 else R 51 j) →
      sx_V 58 (d + 3) (15 + 2 * (4 - (2 + 1))) (160 + 27 * (4 - (2 + 1))) K 105 [(0, .ref 15), (1, .int (nI 2 + nI 1))] [] J (R', .inl (63 + 1), ln) := by
    intro J R' hJ j0 j1 j2 e
    rw [nI_add]
    have g : ∀ q, q ≠ 59 → q ≠ 60 → J q = I q := fun q a b => (hJ q a b).trans (sx_up_ne a)
    refine v_sh_61 ⟨fun q h1 h2 h3 h4 => ?_, fun q hq hq2 => ?_, fun j => ?_, ?_, fun q h1 h2 => ?_⟩ (h0.cg (fun q hq => g q (by omega) (by omega))) (fun j hj => ?_) hk
    · rw [e, sx_upR_ne h3]
      by_cases z : q = 59
      · rw [z, sx_upR_same]
      · rw [sx_upR_ne z, sx_upR_ne z]
        by_cases z1 : q = 60
        · rw [z1, hR.2.1 60 (by omega) (by omega)]; rfl
        · exact hR.1 q h1 (by omega) h3 h4
    · rw [e, sx_upR_ne (by omega), sx_upR_ne (by omega), sx_upR_ne (by omega)]
      exact hR.2.1 q (by omega) hq2
    · rw [e, sx_upR_same]
      show (if j = 2 then some 59 else R 51 j) = _
      by_cases z : j = 2
      · rw [z]; rfl
      · rw [if_neg z, hR.2.2.1 j]
        by_cases z2 : j < 2
        · rw [if_pos z2, if_pos (by omega)]
        · rw [if_neg z2, if_neg (by omega)]
    · rw [e, sx_upR_ne (by omega), sx_upR_ne (by omega), sx_upR_ne (by omega)]
      exact hR.2.2.2.1
    · rw [e, sx_upR_ne (by omega), sx_upR_ne (by omega), sx_upR_ne (by omega)]
      exact hR.2.2.2.2 q h1 h2
    · by_cases z : j = 2
      · rw [z]; exact ⟨j0, j1, j2⟩
      · have := hS j (by omega)
        rw [g _ (by omega) (by omega), g _ (by omega) (by omega)]; exact this
  refine sx_go m58 100 rfl (fun VV CC hV hC => ?_)
  refine ⟨fun (c : nI 4 ≤ nI 2) => absurd ((nI_leI (by omega) (by omega)).mp c) (by omega), fun _ => ?_⟩
  refine sx_s_al (cs := x58_111) rfl ?_
  refine sx_s_getr (cs := x58_114) rfl rfl r15 ?_
  refine hC _ _ _ _ _ (i_sheet_59 (d := d + 1) rfl (fun J hJ j0 j1 j2 => ⟨2, ⟨rfl, by omega⟩, hV _ _ _ _ _ _ _ ?_⟩))
  exact fin J _ hJ j0 j1 j2 rfl
theorem v_sh_57 (hR : iR1 1 R) (h0 : iJ0 I) (hS : iS 1 I) (hk : ∀ J R', (∀ q, 15 ≤ q → q < 78 → R' q = sx_mkR (fun _ _ => none) q) → (∀ q, 78 ≤ q → q < 100 → R' q = fun _ => none) → (∀ q, 100 ≤ q → q < 200 → R' q = sx_mkR (fun _ _ => none) q) → iJ0 J → iS 4 J → iL 5 J → K none J (R', .inl 81, ln)) :
    sx_V 58 (d + 3) (15 + 2 * (4 - 1)) (160 + 27 * (4 - 1)) K 105 [(0, .ref 15), (1, .int (nI 1))] [] I (R, .inl 60, ln) := by
  have r15 : R 15 8 = some 51 := by rw [hR.1 15 (by omega) (by omega) (by omega) (by omega)]; rfl
  have fin : ∀ J R', (∀ q, q ≠ 57 → q ≠ 58 → J q = sx_up I 57 (fun _ => 0) q) → J 57 0 = -1 → J 57 1 = 0 → J 58 = (fun _ => 0) → R' = sx_upR (sx_upR (sx_upR R 57 (fun _ => none)) 57 (sx_mkR (fun _ _ => none) 57)) 51 (fun j => if j = 1 then some 57 else R 51 j) →
      sx_V 58 (d + 3) (15 + 2 * (4 - (1 + 1))) (160 + 27 * (4 - (1 + 1))) K 105 [(0, .ref 15), (1, .int (nI 1 + nI 1))] [] J (R', .inl (61 + 1), ln) := by
    intro J R' hJ j0 j1 j2 e
    rw [nI_add]
    have g : ∀ q, q ≠ 57 → q ≠ 58 → J q = I q := fun q a b => (hJ q a b).trans (sx_up_ne a)
    refine v_sh_59 ⟨fun q h1 h2 h3 h4 => ?_, fun q hq hq2 => ?_, fun j => ?_, ?_, fun q h1 h2 => ?_⟩ (h0.cg (fun q hq => g q (by omega) (by omega))) (fun j hj => ?_) hk
    · rw [e, sx_upR_ne h3]
      by_cases z : q = 57
      · rw [z, sx_upR_same]
      · rw [sx_upR_ne z, sx_upR_ne z]
        by_cases z1 : q = 58
        · rw [z1, hR.2.1 58 (by omega) (by omega)]; rfl
        · exact hR.1 q h1 (by omega) h3 h4
    · rw [e, sx_upR_ne (by omega), sx_upR_ne (by omega), sx_upR_ne (by omega)]
      exact hR.2.1 q (by omega) hq2
    · rw [e, sx_upR_same]
      show (if j = 1 then some 57 else R 51 j) = _
      by_cases z : j = 1
      · rw [z]; rfl
      · rw [if_neg z, hR.2.2.1 j]
        by_cases z2 : j < 1
        · rw [if_pos z2, if_pos (by omega)]
        · rw [if_neg z2, if_neg (by omega)]
    · rw [e, sx_upR_ne (by omega), sx_upR_ne (by omega), sx_upR_ne (by omega)]
      exact hR.2.2.2.1
    · rw [e, sx_upR_ne (by omega), sx_upR_ne (by omega), sx_upR_ne (by omega)]
      exact hR.2.2.2.2 q h1 h2
    · by_cases z : j = 1
      · rw [z]; exact ⟨j0, j1, j2⟩
      · have := hS j (by omega)
        rw [g _ (by omega) (by omega), g _ (by omega) (by omega)]; exact this
  refine sx_go m58 100 rfl (fun VV CC hV hC => ?_)
  refine ⟨fun (c : nI 4 ≤ nI 1) => absurd ((nI_leI (by omega) (by omega)).mp c) (by omega), fun _ => ?_⟩
  refine sx_s_al (cs := x58_111) rfl ?_
  refine sx_s_getr (cs := x58_114) rfl rfl r15 ?_
  refine hC _ _ _ _ _ (i_sheet_57 (d := d + 1) rfl (fun J hJ j0 j1 j2 => ⟨1, ⟨rfl, by omega⟩, hV _ _ _ _ _ _ _ ?_⟩))
  exact fin J _ hJ j0 j1 j2 rfl
theorem v_sh_55 (hR : iR1 0 R) (h0 : iJ0 I) (hS : iS 0 I) (hk : ∀ J R', (∀ q, 15 ≤ q → q < 78 → R' q = sx_mkR (fun _ _ => none) q) → (∀ q, 78 ≤ q → q < 100 → R' q = fun _ => none) → (∀ q, 100 ≤ q → q < 200 → R' q = sx_mkR (fun _ _ => none) q) → iJ0 J → iS 4 J → iL 5 J → K none J (R', .inl 81, ln)) :
    sx_V 58 (d + 3) (15 + 2 * (4 - 0)) (160 + 27 * (4 - 0)) K 105 [(0, .ref 15), (1, .int (nI 0))] [] I (R, .inl 58, ln) := by
  have r15 : R 15 8 = some 51 := by rw [hR.1 15 (by omega) (by omega) (by omega) (by omega)]; rfl
  have fin : ∀ J R', (∀ q, q ≠ 55 → q ≠ 56 → J q = sx_up I 55 (fun _ => 0) q) → J 55 0 = -1 → J 55 1 = 0 → J 56 = (fun _ => 0) → R' = sx_upR (sx_upR (sx_upR R 55 (fun _ => none)) 55 (sx_mkR (fun _ _ => none) 55)) 51 (fun j => if j = 0 then some 55 else R 51 j) →
      sx_V 58 (d + 3) (15 + 2 * (4 - (0 + 1))) (160 + 27 * (4 - (0 + 1))) K 105 [(0, .ref 15), (1, .int (nI 0 + nI 1))] [] J (R', .inl (59 + 1), ln) := by
    intro J R' hJ j0 j1 j2 e
    rw [nI_add]
    have g : ∀ q, q ≠ 55 → q ≠ 56 → J q = I q := fun q a b => (hJ q a b).trans (sx_up_ne a)
    refine v_sh_57 ⟨fun q h1 h2 h3 h4 => ?_, fun q hq hq2 => ?_, fun j => ?_, ?_, fun q h1 h2 => ?_⟩ (h0.cg (fun q hq => g q (by omega) (by omega))) (fun j hj => ?_) hk
    · rw [e, sx_upR_ne h3]
      by_cases z : q = 55
      · rw [z, sx_upR_same]
      · rw [sx_upR_ne z, sx_upR_ne z]
        by_cases z1 : q = 56
        · rw [z1, hR.2.1 56 (by omega) (by omega)]; rfl
        · exact hR.1 q h1 (by omega) h3 h4
    · rw [e, sx_upR_ne (by omega), sx_upR_ne (by omega), sx_upR_ne (by omega)]
      exact hR.2.1 q (by omega) hq2
    · rw [e, sx_upR_same]
      show (if j = 0 then some 55 else R 51 j) = _
      by_cases z : j = 0
      · rw [z]; rfl
      · rw [if_neg z, hR.2.2.1 j]
        by_cases z2 : j < 0
        · rw [if_pos z2, if_pos (by omega)]
        · rw [if_neg z2, if_neg (by omega)]
    · rw [e, sx_upR_ne (by omega), sx_upR_ne (by omega), sx_upR_ne (by omega)]
      exact hR.2.2.2.1
    · rw [e, sx_upR_ne (by omega), sx_upR_ne (by omega), sx_upR_ne (by omega)]
      exact hR.2.2.2.2 q h1 h2
    · by_cases z : j = 0
      · rw [z]; exact ⟨j0, j1, j2⟩
      · have := hS j (by omega)
        rw [g _ (by omega) (by omega), g _ (by omega) (by omega)]; exact this
  refine sx_go m58 100 rfl (fun VV CC hV hC => ?_)
  refine ⟨fun (c : nI 4 ≤ nI 0) => absurd ((nI_leI (by omega) (by omega)).mp c) (by omega), fun _ => ?_⟩
  refine sx_s_al (cs := x58_111) rfl ?_
  refine sx_s_getr (cs := x58_114) rfl rfl r15 ?_
  refine hC _ _ _ _ _ (i_sheet_55 (d := d + 1) rfl (fun J hJ j0 j1 j2 => ⟨0, ⟨rfl, by omega⟩, hV _ _ _ _ _ _ _ ?_⟩))
  exact fin J _ hJ j0 j1 j2 rfl
end
