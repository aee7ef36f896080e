/-! ===== the class: what is static ===== -/
def gs_abs (x : Int32) : Int32 := if x < 0 then -x else x
def gs_max (a b : Int32) : Int32 := if a < b then b else a
def gs_min (a b : Int32) : Int32 := if b < a then b else a
theorem gs_wi_mm (v : Int32) : gs_max (nI 0) (gs_min (nI 99) v) = gs_wi v (nI 99) := by
  unfold gs_max gs_min gs_wi
  by_cases h1 : v < nI 99
  · rw [if_pos h1]
    by_cases h2 : nI 0 < v
    · rw [if_pos h2, if_neg (show ¬ v < 0 from Int32.not_lt.mpr (Int32.le_of_lt h2)), if_neg (Int32.not_lt.mpr (Int32.le_of_lt h1))]
    · rw [if_neg h2, if_neg (Int32.not_lt.mpr (Int32.le_of_lt h1))]
      by_cases h3 : v < 0
      · rw [if_pos h3]
      · rw [if_neg h3]
        have h4 : v ≤ nI 0 := Int32.not_lt.mp h2
        have h5 : nI 0 ≤ v := Int32.not_lt.mp h3
        exact Int32.le_antisymm h5 h4
  · rw [if_neg h1, if_pos (by decide +kernel)]
    have h4 : nI 99 ≤ v := Int32.not_lt.mp h1
    have h5 : ¬ v < 0 := fun h => absurd (Int32.le_trans h4 (Int32.le_of_lt h)) (by decide +kernel)
    rw [if_neg h5]
    by_cases h6 : nI 99 < v
    · rw [if_pos h6]
    · rw [if_neg h6]; exact Int32.le_antisymm h4 (Int32.not_lt.mp h6)
theorem sx_enterF {j d : Nat} {as : List Value} {I : sx_I} {G : sx_G} {K : sx_K} (hpl : plainFor (sx_nm j) = true) (hz : sx_wz as ≤ sx_ml j) (h : sx_V j d (sx_mc j) (sx_ms j) K 0 (sx_args 0 as) [] I G) : sx_C j d as I G K := by
  intro l P
  refine va_MetF (cc := sx_by j) (maxL := sx_ml j) (ret := sx_rt j) hpl rfl ?_
  intro p e s m args below meth c s₁ B hml hv
  obtain ⟨rfl, hRO, hR⟩ := hv
  have hO : sx_op P := hRO.2.2.2.1.2
  have hts0 := atoms_spec (ws := sx_ww j) B.pre
  have hl := lv_entry (as.map (sx_tv P)) (n := sx_ml j) (by rw [sx_wz_eq P hO]; exact hz)
  rw [lg_entry_eq]
  refine h P p l e _ s m _ below meth c (sx_mc j) (sx_ms j) s.heap [] 0 0 _ ⟨B.exec, B.bytes, hml, findClass_of_methodNamed B.named, fun w hw => hts0 w (List.mem_cons_of_mem _ hw), B.notSynchronized, B.returns, fun hct => ?_, Nat.le_refl _, Nat.le_refl _, Nat.le_refl _, Nat.le_refl _, hRO, ?_⟩ (by omega) (by omega) va_S.rf hR ⟨hl.1, hl.2.1, fun i v hi => hl.2.2 (i, sx_tv P v) (sx_args_lk P as 0 i v hO hi)⟩
  · exact (name_of_methodNamed B.named B.method).1.trans hct
  · rw [hR.2.2.1]; omega
section
variable {d : Nat} {I : sx_I} {G : sx_G} {K : sx_K}
theorem c_abs {x : Int32} (hk : K (some (.int (gs_abs x))) I G) : sx_C 212 (d + 1) [.int x] I G K := by
  refine sx_enterF (by decide +kernel) (Nat.le_of_ble_eq_true rfl) (sx_go m212 40 rfl (fun VV CC hV hC => ?_))
  exact ⟨fun c1 => sx_kk (if_neg (Int32.not_lt.mpr c1)).symm hk, fun c1 => sx_kk (if_pos (Int32.not_le.mp c1)).symm hk⟩
theorem c_max {a b : Int32} (hk : K (some (.int (gs_max a b))) I G) : sx_C 213 (d + 1) [.int a, .int b] I G K := by
  refine sx_enterF (by decide +kernel) (Nat.le_of_ble_eq_true rfl) (sx_go m213 40 rfl (fun VV CC hV hC => ?_))
  exact ⟨fun c1 => sx_kk (if_pos c1).symm hk, fun c1 => sx_kk (if_neg c1).symm hk⟩
theorem c_min {a b : Int32} (hk : K (some (.int (gs_min a b))) I G) : sx_C 214 (d + 1) [.int a, .int b] I G K := by
  refine sx_enterF (by decide +kernel) (Nat.le_of_ble_eq_true rfl) (sx_go m214 40 rfl (fun VV CC hV hC => ?_))
  exact ⟨fun c1 => sx_kk (if_pos c1).symm hk, fun c1 => sx_kk (if_neg (Int32.not_lt.mpr (Int32.not_lt.mp c1))).symm hk⟩
theorem c_held {v : Int32} (hk : K (some (.int (gs_wi v (nI 99)))) I G) : sx_C 107 (d + 2) [.int v] I G K := by
  refine sx_enter (by decide +kernel) (Nat.le_of_ble_eq_true rfl) (sx_go m107 40 rfl (fun VV CC hV hC => ?_))
  exact hC _ _ _ _ _ (c_min (hC _ _ _ _ _ (c_max (sx_kk (gs_wi_mm v) hk))))
theorem c_isKind {v : Int32} (hk : K (some (.int (gs_in v 0 (nI 5)))) I G) : sx_C 102 (d + 2) [.int v] I G K := by
  refine sx_enter (by decide +kernel) (Nat.le_of_ble_eq_true rfl) (sx_go m102 40 rfl (fun VV CC hV hC => ?_))
  exact hC _ _ _ _ _ (c_isWithin ⟨gs_in01 _ _ _, hk⟩)
theorem c_isPost1 {v : Int32} (hk : K (some (.int (gs_in v 0 (nI 19)))) I G) : sx_C 103 (d + 2) [.int v] I G K := by
  refine sx_enter (by decide +kernel) (Nat.le_of_ble_eq_true rfl) (sx_go m103 40 rfl (fun VV CC hV hC => ?_))
  exact hC _ _ _ _ _ (c_isWithin ⟨gs_in01 _ _ _, hk⟩)
theorem c_isSheet1 {v : Int32} (hk : K (some (.int (gs_in v 0 (nI 3)))) I G) : sx_C 104 (d + 2) [.int v] I G K := by
  refine sx_enter (by decide +kernel) (Nat.le_of_ble_eq_true rfl) (sx_go m104 40 rfl (fun VV CC hV hC => ?_))
  exact hC _ _ _ _ _ (c_isWithin ⟨gs_in01 _ _ _, hk⟩)
theorem c_isSlot1 {v : Int32} (hk : K (some (.int (gs_in v 0 (nI 4)))) I G) : sx_C 105 (d + 2) [.int v] I G K := by
  refine sx_enter (by decide +kernel) (Nat.le_of_ble_eq_true rfl) (sx_go m105 40 rfl (fun VV CC hV hC => ?_))
  exact hC _ _ _ _ _ (c_isWithin ⟨gs_in01 _ _ _, hk⟩)
theorem c_lives1 {k : Int32} (hk : K (some (.int (gs_lives k))) I G) : sx_C 26 (d + 1) [.int k] I G K := by
  refine sx_enter (by decide +kernel) (Nat.le_of_ble_eq_true rfl) (sx_go m26 40 rfl (fun VV CC hV hC => ?_))
  refine ⟨fun c1 => ⟨Or.inr rfl, sx_kk (if_pos (Or.inl c1)).symm hk⟩, fun c1 => ⟨fun c2 => ⟨Or.inl rfl, sx_kk (if_neg ?_).symm hk⟩, fun c2 => ⟨Or.inr rfl, sx_kk (if_pos (Or.inr c2)).symm hk⟩⟩⟩
  exact fun h => h.elim c1 c2
theorem c_fights1 {k : Int32} (hk : K (some (.int (gs_fights k))) I G) : sx_C 29 (d + 1) [.int k] I G K := by
  refine sx_enter (by decide +kernel) (Nat.le_of_ble_eq_true rfl) (sx_go m29 40 rfl (fun VV CC hV hC => ?_))
  unfold gs_fights at hk
  refine ⟨fun (c1 : ¬ k = nI 2) => ⟨fun (c2 : ¬ k = nI 4) => ?_, fun (c2 : k = nI 4) => ?_⟩, fun (c1 : k = nI 2) => ?_⟩
  · rw [if_neg c1, if_neg c2] at hk; exact hk
  · rw [if_neg c1, if_pos c2] at hk; exact hk
  · rw [if_pos c1] at hk; exact hk
theorem c_falls1 {k w : Int32} (hk : K (some (.int (gs_falls k w))) I G) : sx_C 28 (d + 1) [.int k, .int w] I G K := by
  refine sx_enter (by decide +kernel) (Nat.le_of_ble_eq_true rfl) (sx_go m28 40 rfl (fun VV CC hV hC => ?_))
  unfold gs_falls at hk
  refine ⟨fun (c1 : k = nI 1) => ?_, fun (c1 : ¬ k = nI 1) => ⟨fun (c2 : k = nI 2) => ?_, fun (c2 : ¬ k = nI 2) => ⟨fun (c3 : k = nI 3) => ?_, fun (c3 : ¬ k = nI 3) => ⟨fun (c4 : k = nI 4) => ?_, fun (c4 : ¬ k = nI 4) => ⟨fun (c5 : k = nI 5) => ?_, fun (c5 : ¬ k = nI 5) => ?_⟩⟩⟩⟩⟩
  · rw [if_pos c1] at hk; exact ⟨by decide +kernel, hk⟩
  · rw [if_neg c1, if_pos c2] at hk; exact hk
  · rw [if_neg c1, if_neg c2, if_pos c3] at hk; exact ⟨by decide +kernel, hk⟩
  · rw [if_neg c1, if_neg c2, if_neg c3, if_pos c4] at hk; exact hk
  · rw [if_neg c1, if_neg c2, if_neg c3, if_neg c4, if_pos c5] at hk; exact ⟨by decide +kernel, hk⟩
  · rw [if_neg c1, if_neg c2, if_neg c3, if_neg c4, if_neg c5] at hk; exact ⟨by decide +kernel, hk⟩
theorem c_worth1 {k w : Int32} (hk : K (some (.int (gs_worth k w))) I G) : sx_C 30 (d + 1) [.int k, .int w] I G K := by
  refine sx_enter (by decide +kernel) (Nat.le_of_ble_eq_true rfl) (sx_go m30 40 rfl (fun VV CC hV hC => ?_))
  unfold gs_worth at hk
  refine ⟨fun (c1 : k = nI 1) => ?_, fun (c1 : ¬ k = nI 1) => ⟨fun (c2 : k = nI 2) => ?_, fun (c2 : ¬ k = nI 2) => ⟨fun (c3 : k = nI 3) => ?_, fun (c3 : ¬ k = nI 3) => ⟨fun (c4 : k = nI 4) => ?_, fun (c4 : ¬ k = nI 4) => ⟨fun (c5 : k = nI 5) => ?_, fun (c5 : ¬ k = nI 5) => ?_⟩⟩⟩⟩⟩
  · rw [if_pos c1] at hk; exact hk
  · rw [if_neg c1, if_pos c2] at hk; exact hk
  · rw [if_neg c1, if_neg c2, if_pos c3] at hk; exact hk
  · rw [if_neg c1, if_neg c2, if_neg c3, if_pos c4] at hk; exact hk
  · rw [if_neg c1, if_neg c2, if_neg c3, if_neg c4, if_pos c5] at hk; exact hk
  · rw [if_neg c1, if_neg c2, if_neg c3, if_neg c4, if_neg c5] at hk; exact hk
theorem c_looks1 {k p nt : Int32} {t : Nat} (ht : nt = nI t) (ht2 : t < 2 ^ 31) (hk : K (some (.int (gs_lk k p nt))) I G) : sx_C 27 (d + 1) [.int k, .int p, .int nt] I G K := by
  refine sx_enter (by decide +kernel) (Nat.le_of_ble_eq_true rfl) (sx_go m27 40 rfl (fun VV CC hV hC => ?_))
  unfold gs_lk at hk
  refine ⟨fun (c1 : k = nI 1) => ?_, fun (c1 : ¬ k = nI 1) => ⟨fun (c2 : k = nI 2) => ?_, fun (c2 : ¬ k = nI 2) => ⟨fun (c3 : k = nI 3) => ?_, fun (c3 : ¬ k = nI 3) => ⟨fun (c4 : k = nI 4) => ?_, fun (c4 : ¬ k = nI 4) => ⟨fun (c5 : k = nI 5) => ?_, fun (c5 : ¬ k = nI 5) => ?_⟩⟩⟩⟩⟩
  · rw [if_pos c1] at hk; exact hk
  · rw [if_neg c1, if_pos c2] at hk; exact hk
  · rw [if_neg c1, if_neg c2, if_pos c3] at hk; exact hk
  · rw [if_neg c1, if_neg c2, if_neg c3, if_pos c4] at hk; exact hk
  · rw [if_neg c1, if_neg c2, if_neg c3, if_neg c4, if_pos c5] at hk
    subst ht
    rw [pk_rem ht2 (by omega) (by omega), pk_mul] at hk
    have e := pk_rem (d := 2) ht2 (by omega) (by omega)
    refine ⟨by decide +kernel, fun (c6 : ¬ nI t - nI t / nI 2 * nI 2 = nI 1) => sx_kk ?_ hk, fun (c6 : nI t - nI t / nI 2 * nI 2 = nI 1) => sx_kk ?_ hk⟩
    · rw [e, nI_eq (by omega) (by omega)] at c6
      have : t % 2 = 0 := by omega
      rw [this]
      exact (Int32.add_zero p).symm
    · rw [e, nI_eq (by omega) (by omega)] at c6
      rw [c6]
  · rw [if_neg c1, if_neg c2, if_neg c3, if_neg c4, if_neg c5] at hk; exact hk
end
section
variable {d m : Nat} {I : sx_I} {rw : Nat → Nat → Option Nat} {ln : Nat → Nat} {K : sx_K}
theorem v_under0 {o : Int32} {i : Nat} (hk : K (some (.int (nI 0))) I (sx_run rw m ln)) : sx_V 25 (d + 1) 0 0 K 4 [(1, .int o), (2, .int (-1000000005)), (3, .int (nI i))] [] I (sx_run rw m ln) := by
  refine sx_go m25 40 rfl (fun VV CC hV hC => ?_)
  refine ⟨fun _ => ⟨Or.inl rfl, hk⟩, fun _ => ⟨fun _ => ⟨Or.inl rfl, hk⟩, fun (c : ¬ (-1000000005 : Int32) < 0) => absurd (by decide +kernel) c⟩⟩
theorem v_under1 {o : Int32} {a i : Nat} {y : Int32} (ha : a < 6) (hi : i < 6) (hy : sx_rom 1 a = y) (yes : nI a = o → K (some (.int (nI 1))) I (sx_run rw m ln)) (no : ¬ nI a = o → sx_V 25 (d + 1) 0 0 K 4 [(1, .int o), (2, .int y), (3, .int (nI (i + 1)))] [] I (sx_run rw m ln)) : sx_V 25 (d + 1) 0 0 K 4 [(1, .int o), (2, .int (nI a)), (3, .int (nI i))] [] I (sx_run rw m ln) := by
  refine sx_go m25 40 rfl (fun VV CC hV hC => ?_)
  refine ⟨fun (c : nI 6 ≤ nI i) => absurd c (nI_ge hi (by omega)), fun _ => ⟨fun (c : nI a < 0) => absurd c (nI_pos (by omega)), fun _ => ⟨fun (c : nI 6 ≤ nI a) => absurd c (nI_ge ha (by omega)), fun _ => ⟨fun (c : ¬ nI a = o) => ⟨a, ⟨rfl, ha⟩, hV _ _ _ _ _ _ _ ?_⟩, fun (c : nI a = o) => ⟨Or.inr rfl, yes c⟩⟩⟩⟩⟩
  have := no c
  rw [nI_succ i, ← hy] at this
  exact this
theorem gs_isOf_up {a o : Nat} (ha : a < 6) (ho : o < 6) : gs_isOf (nI a) (nI o) = if a = o ∨ o = 0 ∨ (o = 1 ∧ a = 3) ∨ (o = 2 ∧ a = 4) then nI 1 else nI 0 := by
  have h0 : (nI o = 0) ↔ o = 0 := nI_eq (b := 0) (by omega) (by omega)
  have h1 : (nI o = nI 1) ↔ o = 1 := nI_eq (by omega) (by omega)
  have h2 : (nI o = nI 2) ↔ o = 2 := nI_eq (by omega) (by omega)
  have h3 : (nI a = nI 3) ↔ a = 3 := nI_eq (by omega) (by omega)
  have h4 : (nI a = nI 4) ↔ a = 4 := nI_eq (by omega) (by omega)
  have h5 : (nI a = nI o) ↔ a = o := nI_eq (by omega) (by omega)
  have key : (nI a = nI o ∨ nI o = 0 ∨ (nI o = nI 1 ∧ nI a = nI 3) ∨ (nI o = nI 2 ∧ nI a = nI 4)) ↔ (a = o ∨ o = 0 ∨ (o = 1 ∧ a = 3) ∨ (o = 2 ∧ a = 4)) := by
    rw [h0, h1, h2, h3, h4, h5]
  unfold gs_isOf
  by_cases h : a = o ∨ o = 0 ∨ (o = 1 ∧ a = 3) ∨ (o = 2 ∧ a = 4)
  · rw [if_pos h, if_pos (key.mpr h)]
  · rw [if_neg h, if_neg (fun q => h (key.mp q))]
theorem c_isUnder {a o : Nat} {x y : Int32} (hx : x = nI a) (hy : y = nI o) (ha : a < 6) (ho : o < 6) (hk : K (some (.int (gs_isOf x y))) I (sx_run rw m ln)) : sx_C 25 (d + 1) [.int x, .int y] I (sx_run rw m ln) K := by
  subst hx; subst hy
  rw [gs_isOf_up ha ho] at hk
  have e : ∀ b, b < 6 → (nI b = nI o ↔ b = o) := fun b hb => nI_eq (by omega) (by omega)
  have yes : (a = o ∨ o = 0 ∨ (o = 1 ∧ a = 3) ∨ (o = 2 ∧ a = 4)) → K (some (.int (nI 1))) I (sx_run rw m ln) := fun h => by rw [if_pos h] at hk; exact hk
  have no : ¬ (a = o ∨ o = 0 ∨ (o = 1 ∧ a = 3) ∨ (o = 2 ∧ a = 4)) → K (some (.int (nI 0))) I (sx_run rw m ln) := fun h => by rw [if_neg h] at hk; exact hk
  refine sx_enter (by decide +kernel) (Nat.le_of_ble_eq_true rfl) (sx_go m25 40 rfl (fun VV CC hV hC => hV _ _ _ _ _ _ _ ?_))
  have s0 : ∀ i, i < 6 → (¬ o = 0 → K (some (.int (nI 0))) I (sx_run rw m ln)) → (o = 0 → K (some (.int (nI 1))) I (sx_run rw m ln)) → sx_V 25 (d + 1) 0 0 K 4 [(1, .int (nI o)), (2, .int (nI 0)), (3, .int (nI i))] [] I (sx_run rw m ln) := by
    intro i hi h1 h2
    refine v_under1 (y := -1000000005) (by omega) hi (by decide +kernel) (fun q => h2 ?_) (fun q => v_under0 (h1 ?_))
    · have := (e 0 (by omega)).mp q; omega
    · intro h; exact q ((e 0 (by omega)).mpr h.symm)
  have s1 : ∀ b i, b < 6 → i < 5 → sx_rom 1 b = nI 0 → (b = o → K (some (.int (nI 1))) I (sx_run rw m ln)) → (¬ b = o → ¬ o = 0 → K (some (.int (nI 0))) I (sx_run rw m ln)) → (o = 0 → K (some (.int (nI 1))) I (sx_run rw m ln)) → sx_V 25 (d + 1) 0 0 K 4 [(1, .int (nI o)), (2, .int (nI b)), (3, .int (nI i))] [] I (sx_run rw m ln) := by
    intro b i hb hi hr h1 h2 h3
    refine v_under1 hb (by omega) hr (fun q => h1 ((e b hb).mp q)) (fun q => s0 (i + 1) (by omega) (h2 (fun h => q ((e b hb).mpr h))) h3)
  have ca : a = 0 ∨ a = 1 ∨ a = 2 ∨ a = 3 ∨ a = 4 ∨ a = 5 := by omega
  rcases ca with rfl | rfl | rfl | rfl | rfl | rfl
  · exact s0 0 (by omega) (fun h => no (by omega)) (fun h => yes (by omega))
  · exact s1 1 0 (by omega) (by omega) (by decide +kernel) (fun h => yes (by omega)) (fun h h2 => no (by omega)) (fun h => yes (by omega))
  · exact s1 2 0 (by omega) (by omega) (by decide +kernel) (fun h => yes (by omega)) (fun h h2 => no (by omega)) (fun h => yes (by omega))
  · refine v_under1 (y := nI 1) (by omega) (by omega) (by decide +kernel) (fun q => yes (by have := (e 3 (by omega)).mp q; omega)) (fun q => s1 1 1 (by omega) (by omega) (by decide +kernel) (fun h => yes (by omega)) (fun h h2 => no ?_) (fun h => yes (by omega)))
    have : ¬ 3 = o := fun h => q ((e 3 (by omega)).mpr h)
    omega
  · refine v_under1 (y := nI 2) (by omega) (by omega) (by decide +kernel) (fun q => yes (by have := (e 4 (by omega)).mp q; omega)) (fun q => s1 2 1 (by omega) (by omega) (by decide +kernel) (fun h => yes (by omega)) (fun h h2 => no ?_) (fun h => yes (by omega)))
    have : ¬ 4 = o := fun h => q ((e 4 (by omega)).mpr h)
    omega
  · exact s1 5 0 (by omega) (by omega) (by decide +kernel) (fun h => yes (by omega)) (fun h h2 => no (by omega)) (fun h => yes (by omega))
end
