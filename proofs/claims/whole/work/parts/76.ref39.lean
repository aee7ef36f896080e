/-! ===== the reference: parse, text ===== -/
def gy_pf (a : Nat) (I J : sx_I) : Prop := (∀ q, q ≠ 78 → q ≠ 79 → J q = I q) ∧ (∀ k, (k < 14 ∨ 24 < k) → J 78 k = I 78 k) ∧ J 78 14 = 0 ∧ ∀ q, q < a → J 79 q = I 79 q
def gy_a (t : Nat) : Nat := if t < 14 then 66 + 200 * t else 2862
section
variable {d m : Nat} {I I0 : sx_I} {rw : Nat → Nat → Option Nat} {ln : Nat → Nat} {K : sx_K} {T : Nat → Nat} {n a : Nat} {cmp : Nat → Int32}
theorem gy_key3 (p q : Nat) : gy_key T p q = -1 ∨ gy_key T p q = 0 ∨ gy_key T p q = nI 1 ∨ gy_key T p q = nI 2 := by
  unfold gy_key
  split
  · exact Or.inr (Or.inl rfl)
  · split
    · exact Or.inr (Or.inr (Or.inl rfl))
    · split
      · exact Or.inr (Or.inr (Or.inr rfl))
      · exact Or.inl rfl
theorem v_parse63 {t0 : Nat} (hd : t0 = d + 65) (hT : gy_bt T n I) (hcmp : cmp 0 = 0)
    (hkF : ∀ J b, gy_pf a I J → J 78 15 = nI b → gy_read T n cmp = .inl b → K (some (.int (-1))) J (sx_run rw m ln))
    (hkT : ∀ J key o w, gy_pf a I J → gy_read T n cmp = .inr (key, o, w) → (key = 0 ∨ key = nI 1 ∨ key = nI 2) → J 78 22 = nI o.length → J 78 24 = nI w → gy_out (fun i => J 79 (a + i)) o → gy_ok key o → gy_hg o = 1 → o.length ≤ 96 → K (some (.int key)) J (sx_run rw m ln))
    (J : sx_I) (hJ : ∀ q, q ≠ 78 → J q = I q) (hJk : ∀ k, (k < 15 ∨ 24 < k) → J 78 k = I 78 k) (h16 : J 78 16 = nI 0) (h20 : J 78 20 = nI 0) (h21 : J 78 21 = nI 0) (h22 : J 78 22 = nI 0) (h24 : J 78 24 = nI 0) (h23 : J 78 23 = nI a) (ha : a ≤ 2862) :
    sx_V 186 (t0 + 1) 0 0 K 63 [(0, .ref 78)] [] J (sx_run rw m ln) := by
  subst hd
  have hTJ : gy_bt T n J := ⟨(hJk 14 (by omega)).trans hT.1, hT.2.1, fun i hi => by rw [hJ 91 (by decide)]; exact hT.2.2 i hi⟩
  have hn9 := hT.2.1
  have v111 : ∀ (L : sx_I) (key g : Int32), (g = 0 → K (some (.int (-1))) (sx_up L 78 (upd (L 78) 14 0)) (sx_run rw m ln)) → (¬ g = 0 → K (some (.int key)) (sx_up L 78 (upd (L 78) 14 0)) (sx_run rw m ln)) → sx_V 186 (d + 65 + 1) 0 0 K 111 [(0, .ref 78), (1, .int key), (2, .int g)] [] L (sx_run rw m ln) := by
    intro L key g q0 q1
    refine sx_go m186 100 rfl (fun VV CC hV hC => ?_)
    exact ⟨fun c => q0 c, fun c => q1 c⟩
  have pf : ∀ L, gy_fr a J L → gy_pf a I (sx_up L 78 (upd (L 78) 14 0)) := by
    intro L h
    refine ⟨fun q x y => ?_, fun k hk => ?_, ?_, fun q hq => ?_⟩
    · rw [sx_up_ne x, h.1 q x y]; exact hJ q x
    · rw [sx_up_same, pk_un (by omega), h.2.1 k (by omega)]; exact hJk k (by omega)
    · rw [sx_up_same, pk_us]
    · rw [sx_up_ne (by decide), h.2.2 q hq, hJ 79 (by decide)]
  refine sx_go m186 100 rfl (fun VV CC hV hC => ?_)
  have hp : gy_bl T n 0 ≤ n := by have := gy_bl_le T n 0; omega
  have e0 : n - 0 = n := rfl
  refine hC _ _ _ _ _ (c_nextToken (d := d + 62) hTJ (Nat.zero_le n) h16 ⟨fun z => absurd z.1 (by omega), fun z => absurd z.1 (Nat.lt_irrefl 0)⟩ (fun J1 hJ1 hr => ?_))
  rw [e0] at hr
  refine hC _ _ _ _ _ (c_key (d := d + 63) (hJ1.bt hTJ) hp hr ?_)
  have hb : J1 78 15 = nI (gy_bl T n 0) := hr.1
  have key3 := gy_key3 (T := T) (gy_bl T n 0) (gy_ke T n (gy_bl T n 0))
  by_cases ck : gy_key T (gy_bl T n 0) (gy_ke T n (gy_bl T n 0)) = -1
  · rw [ck]
    have erd : gy_read T n cmp = .inl (gy_bl T n 0) := if_pos ck
    refine ⟨fun _ => ⟨fun _ => hV _ _ _ _ _ _ _ (v111 J1 (-1) _ (fun _ => ?_) (fun z => absurd rfl z)), fun z => absurd rfl z⟩, fun z => absurd (show (-1 : Int32) < 0 by decide) z⟩
    exact hkF _ _ (pf _ hJ1.fr) (by rw [sx_up_same, pk_un (by decide)]; exact hb) erd
  · have hkey := key3.resolve_left ck
    have hlt : gy_bl T n 0 < n := by
      rcases Nat.lt_or_ge (gy_bl T n 0) n with z | z
      · exact z
      · exfalso
        refine ck ?_
        have eq : gy_ke T n (gy_bl T n 0) = gy_bl T n 0 := if_neg (by omega)
        rw [eq]
        unfold gy_key
        rw [if_neg (fun y => ?_), if_neg (fun y => ?_), if_neg (fun y => ?_)]
        · have := (decide_eq_true_iff.mp y).1; omega
        · have := (decide_eq_true_iff.mp y).1; omega
        · have := (decide_eq_true_iff.mp y).1; omega
    have eke : gy_ke T n (gy_bl T n 0) = gy_to T n (gy_bl T n 0) := if_pos hlt
    have erd : gy_read T n cmp = match gy_run n (gy_key T (gy_bl T n 0) (gy_ke T n (gy_bl T n 0))) (gy_tk T n (gy_ke T n (gy_bl T n 0))) [] [] 0 0 0 true cmp with
      | .inl b => .inl b
      | .inr (o, w) => .inr (gy_key T (gy_bl T n 0) (gy_ke T n (gy_bl T n 0)), o, w) := if_neg ck
    have h17 : J1 78 17 = nI 1 := by
      have hs : gy_so (T (gy_bl T n 0)) = 1 := by
        have w108 : gy_so 108 = 1 := by decide
        have w102 : gy_so 102 = 1 := by decide
        unfold gy_key at ck
        by_cases y1 : gy_look T (gy_bl T n 0) (gy_ke T n (gy_bl T n 0)) = true
        · rw [(decide_eq_true_iff.mp y1).2.1]; exact w108
        · rw [if_neg y1] at ck
          by_cases y2 : gy_fee T (gy_bl T n 0) (gy_ke T n (gy_bl T n 0)) = true
          · rw [(decide_eq_true_iff.mp y2).2.1]; exact w102
          · rw [if_neg y2] at ck
            by_cases y3 : gy_fine T (gy_bl T n 0) (gy_ke T n (gy_bl T n 0)) = true
            · rw [(decide_eq_true_iff.mp y3).2.1]; exact w102
            · rw [if_neg y3] at ck; exact absurd rfl ck
      exact ((hr.2.2 hlt).2.2.1 hs).1.2 (fun z => absurd z.2.1 (Nat.lt_irrefl 0))
    have hlast : gy_so (T (gy_to T n (gy_bl T n 0) - 1)) ≠ 3 := by
      rw [gy_to_last]
      intro z
      have := ((hr.2.2 hlt).2.1 z).1.symm.trans h17
      exact absurd this (by decide)
    generalize gy_key T (gy_bl T n 0) (gy_ke T n (gy_bl T n 0)) = key at ck hkey erd
    have hk0 : ¬ key < 0 := by rcases hkey with z | z | z <;> rw [z] <;> decide
    refine ⟨fun z => absurd z hk0, fun _ => ⟨fun (z : nI 1 = 0) => absurd z (by decide), fun _ => ?_⟩⟩
    have tgt := gy_to_gt T n (gy_bl T n 0)
    refine hC _ _ _ _ _ (c_nextToken (d := d + 62) (hJ1.bt hTJ) (gy_to_le T n _ hlt) (hr.2.2 hlt).1 ⟨fun _ => ⟨by omega, hlast⟩, fun z => ⟨z.1, Or.inl h17⟩⟩ (fun J2 hJ2 hr2 => ?_))
    have fr2 : gy_fr a J J2 := hJ1.fr.tr hJ2.fr
    have hat2 := gy_raw_at (gy_to_le T n _ hlt) (fun i hi => (hT.2.2 i hi).2) hr2
    rw [← eke] at hat2
    have hlen := gy_tk_len T n (n - gy_ke T n (gy_bl T n 0)) (gy_ke T n (gy_bl T n 0)) (Nat.le_refl _)
    generalize gy_tk T n (gy_ke T n (gy_bl T n 0)) = ts at hat2 erd hlen
    have l2 : ∀ k, 19 < k → J2 78 k = J 78 k := fun k hk => (hJ2.2 k (by omega)).trans (hJ1.2 k (by omega))
    have hst : gy_st T n a J ts [] 0 0 0 J2 := ⟨fr2, hat2, (l2 20 (by omega)).trans h20, (l2 21 (by omega)).trans h21, (l2 22 (by omega)).trans h22, (l2 24 (by omega)).trans h24, trivial⟩
    refine hC _ _ _ _ _ (c_eitherAll (key := key) ⟨hTJ, h23, ha⟩ hkey d _ J2 ts [] [] 0 0 0 cmp trivial hst (fun _ => hcmp) (by omega) (by omega) (by omega) (by show 0 + 0 + ts.length ≤ 96; omega) trivial (fun J3 b f1 f2 f3 => ?_) (fun J3 ts2 P o1 o2 w2 cmp2 h => ?_))
    · rw [f3] at erd
      refine ⟨fun _ => hV _ _ _ _ _ _ _ (v111 J3 _ _ (fun _ => ?_) (fun z => absurd rfl z)), fun z => absurd rfl z⟩
      exact hkF _ _ (pf _ f1) (by rw [sx_up_same, pk_un (by decide)]; exact f2) erd
    · obtain ⟨k1, k2, k3, k4, k5, k6, k7, k8, k9, k10⟩ := h
      obtain ⟨b2, e2, g15, -, hbn2, -, gd⟩ := k6.2.1
      refine ⟨fun (z : nI 1 = 0) => absurd z (by decide), fun _ => ?_⟩
      cases ts2 with
      | nil =>
        have er : gy_run n key [] (P ++ []) o1 w2 0 0 false cmp2 = .inr (o2, w2) := by
          have e := gy_pop_app (l := 0) (S := []) trivial P o1 k3
          show (if false = true ∨ 0 < 0 then _ else Sum.inr ((gy_pop 0 (P ++ []) o1).2, w2)) = _
          rw [if_neg (fun z => z.elim (fun z => by cases z) (fun z => absurd z (by omega))), e, k2]
        rw [k1, er] at erd
        refine ⟨fun c => absurd gd.1 c, fun _ => hV _ _ _ _ _ _ _ (v111 J3 key (nI 1) (fun z => absurd z (by decide)) (fun _ => ?_))⟩
        refine hkT _ key o2 w2 (pf _ k6.1) erd hkey ?_ ?_ ?_ k8 k9 (by omega)
        · rw [sx_up_same, pk_un (by decide)]; exact k6.2.2.2.2.1
        · rw [sx_up_same, pk_un (by decide)]; exact k6.2.2.2.2.2.1
        · rw [sx_up_ne (by decide)]; exact k6.2.2.2.2.2.2
      | cons t rest =>
        obtain ⟨s, v, p⟩ := t
        have er : gy_run n key ((s, v, p) :: rest) (P ++ []) o1 w2 0 0 false cmp2 = .inl p := gy_run_bad k4 (fun z => absurd z.2.2 (Nat.lt_irrefl 0))
        rw [k1, er, gd.1] at erd
        have c17 : ¬ J3 78 17 = 0 := by
          rcases gy_at_s k6.2.1 with z | z | z | z
          · rcases z.2 with z | z
            · rw [z]; decide
            · rw [z.1]; decide
          · rw [z.2.1]; decide
          · rw [z.2.1]; decide
          · rw [z.2.1]; decide
        refine ⟨fun _ => hV _ _ _ _ _ _ _ (v111 J3 key (nI 0) (fun _ => ?_) (fun z => absurd rfl z)), fun z => absurd z c17⟩
        exact hkF _ _ (pf _ k6.1) (by rw [sx_up_same, pk_un (by decide)]; exact g15) erd
theorem c_parse {t : Nat} (ht : I 79 1 = nI t) (ht14 : t ≤ 14) (hT : gy_bt T n I) (hcmp : cmp 0 = 0)
    (hkF : ∀ J b, gy_pf (gy_a t) I J → J 78 15 = nI b → gy_read T n cmp = .inl b → K (some (.int (-1))) J (sx_run rw m ln))
    (hkT : ∀ J key o w, gy_pf (gy_a t) I J → gy_read T n cmp = .inr (key, o, w) → (key = 0 ∨ key = nI 1 ∨ key = nI 2) → J 78 22 = nI o.length → J 78 24 = nI w → gy_out (fun i => J 79 (gy_a t + i)) o → gy_ok key o → gy_hg o = 1 → o.length ≤ 96 → K (some (.int key)) J (sx_run rw m ln)) :
    sx_C 186 (d + 66) [.ref 78] I (sx_run rw m ln) K := by
  have ha : gy_a t ≤ 2862 := by unfold gy_a; split <;> omega
  refine sx_enter (by decide +kernel) (Nat.le_of_ble_eq_true rfl) (sx_go m186 100 rfl (fun VV CC hV hC => ?_))
  have base : ∀ J1 J2 J3 J4 J5 J6 : sx_I, J1 = sx_up I 78 (upd (I 78) 16 (nI 0)) → J2 = sx_up J1 78 (upd (J1 78) 17 (nI 3)) → J3 = sx_up J2 78 (upd (J2 78) 20 (nI 0)) → J4 = sx_up J3 78 (upd (J3 78) 21 (nI 0)) → J5 = sx_up J4 78 (upd (J4 78) 22 (nI 0)) → J6 = sx_up J5 78 (upd (J5 78) 24 (nI 0)) →
      J6 79 1 = nI t ∧ ∀ x, x = nI (gy_a t) → sx_V 186 (d + 65 + 1) 0 0 K 63 [(0, .ref 78)] [] (sx_up J6 78 (upd (J6 78) 23 x)) (sx_run rw m ln) := by
    intro J1 J2 J3 J4 J5 J6 e1 e2 e3 e4 e5 e6
    have g1 : J1 78 = upd (I 78) 16 (nI 0) := by rw [e1, sx_up_same]
    have g2 : J2 78 = upd (J1 78) 17 (nI 3) := by rw [e2, sx_up_same]
    have g3 : J3 78 = upd (J2 78) 20 (nI 0) := by rw [e3, sx_up_same]
    have g4 : J4 78 = upd (J3 78) 21 (nI 0) := by rw [e4, sx_up_same]
    have g5 : J5 78 = upd (J4 78) 22 (nI 0) := by rw [e5, sx_up_same]
    have g6 : J6 78 = upd (J5 78) 24 (nI 0) := by rw [e6, sx_up_same]
    have ne : ∀ q, q ≠ 78 → J6 q = I q := fun q hq => by rw [e6, sx_up_ne hq, e5, sx_up_ne hq, e4, sx_up_ne hq, e3, sx_up_ne hq, e2, sx_up_ne hq, e1, sx_up_ne hq]
    refine ⟨by rw [ne 79 (by decide)]; exact ht, fun x hx => ?_⟩
    subst hx
    refine v_parse63 (a := gy_a t) rfl hT hcmp hkF hkT _ (fun q hq => by rw [sx_up_ne hq]; exact ne q hq) (fun k hk => ?_) ?_ ?_ ?_ ?_ ?_ ?_ ha
    · rw [sx_up_same, pk_un (by omega), g6, pk_un (by omega), g5, pk_un (by omega), g4, pk_un (by omega), g3, pk_un (by omega), g2, pk_un (by omega), g1, pk_un (by omega)]
    · rw [sx_up_same, pk_un (by omega), g6, pk_un (by omega), g5, pk_un (by omega), g4, pk_un (by omega), g3, pk_un (by omega), g2, pk_un (by omega), g1, pk_us]
    · rw [sx_up_same, pk_un (by omega), g6, pk_un (by omega), g5, pk_un (by omega), g4, pk_un (by omega), g3, pk_us]
    · rw [sx_up_same, pk_un (by omega), g6, pk_un (by omega), g5, pk_un (by omega), g4, pk_us]
    · rw [sx_up_same, pk_un (by omega), g6, pk_un (by omega), g5, pk_us]
    · rw [sx_up_same, pk_un (by omega), g6, pk_us]
    · rw [sx_up_same, pk_us]
  obtain ⟨b1, b2⟩ := base _ _ _ _ _ _ rfl rfl rfl rfl rfl rfl
  refine ⟨1, ⟨rfl, by omega⟩, fun c1 => ?_, fun c1 => ?_⟩
  · have c2 : 14 ≤ t := (nI_leI (by omega) (by omega)).mp (show nI 14 ≤ nI t from b1 ▸ c1)
    refine hV _ _ _ _ _ _ _ (b2 _ ?_)
    unfold gy_a; rw [if_neg (by omega)]
  · have c2 : ¬ 14 ≤ t := fun z => c1 (show nI 14 ≤ _ from b1.symm ▸ (nI_leI (by omega) (by omega)).mpr z)
    refine ⟨1, ⟨rfl, by omega⟩, hC _ _ _ _ _ (c_textAt (t := t) b1 (hV _ _ _ _ _ _ _ (b2 _ ?_)))⟩
    unfold gy_a; rw [if_pos (by omega), nI_add]; congr 1; omega
end
