/-! ===== the law: tape, waits, count ===== -/
section
variable {I J : sx_I} {rw : Nat → Nat → Option Nat} {u : Nat} {ln : Nat → Nat}
theorem lw.tape (h : lw I rw u ln) {t' : Nat} (f : ∀ q, ((19 ≤ q ∧ q ≤ 36) ∨ q = 53 ∨ (55 ≤ q ∧ q ≤ 77) ∨ q = 79 ∨ q = 80 ∨ (82 ≤ q ∧ q ≤ 89) ∨ q = 95 ∨ q = 119 ∨ q = 128 ∨ (200 ≤ q ∧ (q - 200) % 3 ≠ 2)) → J q = I q) (h15 : J 15 = upd (I 15) 7 (nI t')) (h78 : J 78 = upd (I 78) 14 (nI t')) (ht' : t' ≤ 96) (hby : ∀ i, i < t' → ∃ c, c < 256 ∧ J 91 i = nI c ∧ J 50 i = gy_sb c) : lw J rw u ln := by
  obtain ⟨hA, hB, hC, hD, -, hF, hG⟩ := h
  refine ⟨hA.cg (fun q a => f q (by omega)), hB.cg (fun q a => f q (by omega)) ?_ ?_, hC.cg (fun q a => f q (by omega)), hD.cg (fun q a => f q (by omega)), ⟨t', ?_, ?_, ht', hby⟩, hF.cg ?_ ?_ (f 53 (by omega)) (f 95 (by omega)), hG.cg ?_ ?_⟩
  · rw [h15, pk_un (by decide)]
  · rw [h78, pk_un (by decide)]
  · rw [h15, pk_us]
  · rw [h78, pk_us]
  · rw [h15, pk_un (by decide)]
  · rw [h78, pk_un (by decide)]
  · rw [f 80 (by omega)]
  · rw [f 79 (by omega)]
theorem lw.waits (h : lw I rw u ln) {w : Nat} (f : ∀ q, ((19 ≤ q ∧ q ≤ 36) ∨ q = 50 ∨ (55 ≤ q ∧ q ≤ 77) ∨ q = 79 ∨ q = 80 ∨ (82 ≤ q ∧ q ≤ 89) ∨ q = 91 ∨ q = 119 ∨ q = 128 ∨ (200 ≤ q ∧ (q - 200) % 3 ≠ 2)) → J q = I q) (h15 : J 15 = upd (I 15) 11 (nI w)) (h78 : J 78 = upd (I 78) 29 (nI w)) (hw : w ≤ 60) (hwt : ∀ k, k < w → J 53 k = J 95 k) : lw J rw u ln := by
  obtain ⟨hA, hB, hC, hD, hE, -, hG⟩ := h
  refine ⟨hA.cg (fun q a => f q (by omega)), hB.cg (fun q a => f q (by omega)) ?_ ?_, hC.cg (fun q a => f q (by omega)), hD.cg (fun q a => f q (by omega)), hE.cg ?_ ?_ (f 50 (by omega)) (f 91 (by omega)), ⟨w, ?_, ?_, hw, hwt⟩, hG.cg ?_ ?_⟩
  · rw [h15, pk_un (by decide)]
  · rw [h78, pk_un (by decide)]
  · rw [h15, pk_un (by decide)]
  · rw [h78, pk_un (by decide)]
  · rw [h15, pk_us]
  · rw [h78, pk_us]
  · rw [f 80 (by omega)]
  · rw [f 79 (by omega)]
end
section
variable {d mc ms : Nat} {I : sx_I} {rw : Nat → Nat → Option Nat} {u i N : Nat} {ln : Nat → Nat} {K : sx_K}
set_option maxRecDepth 100000 in
theorem lw_c23 (h : lw I rw u ln) (hN : ln 14 = N) (hi : i + 6 ≤ N) (next : ∀ J rw', lw J rw' u ln → sx_V 229 (d + 68) (mc + 3) (ms + 196) K 1432 [(0, .ref 14), (1, .ref 15), (2, .ref 78), (3, .int (nI i))] [] J (sx_run rw' (3 * u) ln)) :
    sx_V 229 (d + 68) (mc + 3) (ms + 196) K 865 [(0, .ref 14), (1, .ref 15), (2, .ref 78), (3, .int (nI i))] [] I (sx_run rw (3 * u) ln) := by
  obtain ⟨-, -, -, -, hE, -⟩ := id h
  obtain ⟨t, h7, h14, ht, hby⟩ := id hE
  have lt : ∀ k, k < 6 → i + k < ln 14 := fun k hk => by omega
  refine sx_go m229 100 rfl (fun VV CC hV hC => ?_)
  refine ⟨i + 1, ⟨nI_add i 1, lt 1 (by decide)⟩, i + 2, ⟨nI_add i 2, lt 2 (by decide)⟩, i + 3, ⟨nI_add i 3, lt 3 (by decide)⟩, hC _ _ _ _ _ (c1_feed h7 ht (fun hbig => ?_) (fun hsm J hJ h15 h50 h50b => ?_))⟩
  · exact ⟨i + 1, ⟨nI_add i 1, lt 1 (by decide)⟩, i + 2, ⟨nI_add i 2, lt 2 (by decide)⟩, i + 3, ⟨nI_add i 3, lt 3 (by decide)⟩, hC _ _ _ _ _ (c_feed (t := t) h14 ht (fun _ => ⟨fun _ => hV _ _ _ _ _ _ _ (next _ _ h), fun ne => absurd rfl ne⟩) (fun z => absurd z (by omega)))⟩
  · have e14 : J 14 = I 14 := hJ 14 (by decide) (by decide)
    have e78 : J 78 = I 78 := hJ 78 (by decide) (by decide)
    have e91 : J 91 = I 91 := hJ 91 (by decide) (by decide)
    refine ⟨i + 1, ⟨nI_add i 1, lt 1 (by decide)⟩, i + 2, ⟨nI_add i 2, lt 2 (by decide)⟩, i + 3, ⟨nI_add i 3, lt 3 (by decide)⟩, hC _ _ _ _ _ (c_feed (t := t) (by rw [e78]; exact h14) ht (fun z => absurd z (by omega)) (fun _ => ⟨fun _ => hV _ _ _ _ _ _ _ (next _ _ ?_), fun ne => absurd rfl ne⟩))⟩
    rw [e14]
    refine h.tape (t' := t + 12) (fun q a => ?_) ?_ ?_ (by omega) (fun q hq => ?_)
    · rw [sx_up_ne (by omega), sx_up_ne (by omega)]; exact hJ q (by omega) (by omega)
    · rw [sx_up_ne (by decide), sx_up_ne (by decide)]; exact h15
    · rw [sx_up_same, e78]
    · rw [sx_up_ne (by decide), sx_up_same, sx_up_ne (by decide), sx_up_ne (by decide), gs_tp_at, e91]
      by_cases c : q < t
      · obtain ⟨x, hx, e1, e2⟩ := hby q c
        rw [if_neg (by omega), h50 q (Or.inl c)]
        exact ⟨x, hx, e1, e2⟩
      · obtain ⟨x, hx, e1, e2⟩ := gy_byte (a := I 14 (i + 1)) (b := I 14 (i + 2)) (c := I 14 (i + 3)) (i := q - t) (by omega)
        rw [if_pos (by omega), e1]
        refine ⟨x, hx, rfl, ?_⟩
        have := h50b (q - t) (by omega)
        rw [show t + (q - t) = q by omega] at this
        rw [this]; exact e2
set_option maxRecDepth 100000 in
theorem lw_c24 (h : lw I rw u ln) (hN : ln 14 = N) (hi : i + 6 ≤ N) (next : ∀ J rw', lw J rw' u ln → sx_V 229 (d + 68) (mc + 3) (ms + 196) K 1432 [(0, .ref 14), (1, .ref 15), (2, .ref 78), (3, .int (nI i))] [] J (sx_run rw' (3 * u) ln)) :
    sx_V 229 (d + 68) (mc + 3) (ms + 196) K 908 [(0, .ref 14), (1, .ref 15), (2, .ref 78), (3, .int (nI i))] [] I (sx_run rw (3 * u) ln) := by
  obtain ⟨-, -, -, -, hE, -⟩ := id h
  obtain ⟨t, h7, h14, ht, hby⟩ := id hE
  have lt : ∀ k, k < 6 → i + k < ln 14 := fun k hk => by omega
  refine sx_go m229 100 rfl (fun VV CC hV hC => ?_)
  refine ⟨i + 1, ⟨nI_add i 1, lt 1 (by decide)⟩, hC _ _ _ _ _ (c1_trim h7 ht ?_)⟩
  rw [h7]
  by_cases c : gs_in (I 14 (i + 1)) 0 (nI t) = 0
  · rw [if_pos c]
    refine ⟨i + 1, ⟨nI_add i 1, lt 1 (by decide)⟩, hC _ _ _ _ _ (c_trim (t := t) h14 ht ?_)⟩
    rw [h14, if_pos c]
    exact ⟨fun _ => hV _ _ _ _ _ _ _ (next _ _ h), fun ne => absurd rfl ne⟩
  · rw [if_neg c]
    generalize eJ : sx_up I 15 (upd (I 15) 7 (I 14 (i + 1))) = J
    have f : ∀ q, q ≠ 15 → J q = I q := fun q hq => by rw [← eJ]; exact sx_up_ne hq
    have e15 : J 15 = upd (I 15) 7 (I 14 (i + 1)) := by rw [← eJ]; exact sx_up_same _ _ _
    have e14 : J 14 = I 14 := f 14 (by decide)
    have e78 : J 78 = I 78 := f 78 (by decide)
    refine ⟨i + 1, ⟨nI_add i 1, lt 1 (by decide)⟩, hC _ _ _ _ _ (c_trim (t := t) (by rw [e78]; exact h14) ht ?_)⟩
    rw [e78, h14, e14, if_neg c]
    refine ⟨fun _ => hV _ _ _ _ _ _ _ (next _ _ ?_), fun ne => absurd rfl ne⟩
    obtain ⟨x, ex, -, hx⟩ := gs_in_nat (a := 0) (by omega) c (by decide)
    rw [ex] at e15 ⊢
    refine h.tape (t' := x) (fun q a => ?_) ?_ ?_ (by omega) (fun q hq => ?_)
    · rw [sx_up_ne (by omega)]; exact f q (by omega)
    · rw [sx_up_ne (by decide)]; exact e15
    · rw [sx_up_same]
    · rw [sx_up_ne (by decide), sx_up_ne (by decide), f 91 (by decide), f 50 (by decide)]
      exact hby q (by omega)
set_option maxRecDepth 100000 in
theorem lw_c37 (h : lw I rw u ln) (hN : ln 14 = N) (hi : i + 6 ≤ N) (next : ∀ J rw', lw J rw' u ln → sx_V 229 (d + 68) (mc + 3) (ms + 196) K 1432 [(0, .ref 14), (1, .ref 15), (2, .ref 78), (3, .int (nI i))] [] J (sx_run rw' (3 * u) ln)) :
    sx_V 229 (d + 68) (mc + 3) (ms + 196) K 1337 [(0, .ref 14), (1, .ref 15), (2, .ref 78), (3, .int (nI i))] [] I (sx_run rw (3 * u) ln) := by
  obtain ⟨-, -, -, -, -, hF, -⟩ := id h
  obtain ⟨w, h11, h29, hw, hwt⟩ := id hF
  have lt : ∀ k, k < 6 → i + k < ln 14 := fun k hk => by omega
  refine sx_go m229 100 rfl (fun VV CC hV hC => ?_)
  refine ⟨i + 1, ⟨nI_add i 1, lt 1 (by decide)⟩, hC _ _ _ _ _ (c1_tell (W := w) h11 hw (fun c => ?_) (fun c => ?_))⟩
  · refine ⟨i + 1, ⟨nI_add i 1, lt 1 (by decide)⟩, hC _ _ _ _ _ (c_tell (t := w) h29 hw ?_)⟩
    have c60 : I 78 29 = nI 60 := by rw [h29, c]
    rw [if_pos c60]
    exact ⟨fun _ => hV _ _ _ _ _ _ _ (next _ _ h), fun ne => absurd (by unfold gs_tell; rw [if_pos c60]) ne⟩
  · have base : ∀ J : sx_I, J = sx_up (sx_up I 53 (upd (I 53) w (I 14 (i + 1)))) 15 (upd (I 15) 11 (nI (w + 1))) → (∀ q, q ≠ 53 → q ≠ 15 → J q = I q) ∧ J 53 = upd (I 53) w (I 14 (i + 1)) ∧ J 15 = upd (I 15) 11 (nI (w + 1)) := by
      intro J e
      refine ⟨fun q a b => by rw [e, sx_up_ne b, sx_up_ne a], by rw [e, sx_up_ne (by decide), sx_up_same], by rw [e, sx_up_same]⟩
    generalize eJ : sx_up (sx_up I 53 (upd (I 53) w (I 14 (i + 1)))) 15 (upd (I 15) 11 (nI (w + 1))) = J
    obtain ⟨f, e53, e15⟩ := base J eJ.symm
    have e14 : J 14 = I 14 := f 14 (by decide) (by decide)
    have e78 : J 78 = I 78 := f 78 (by decide) (by decide)
    have e95 : J 95 = I 95 := f 95 (by decide) (by decide)
    refine ⟨i + 1, ⟨nI_add i 1, lt 1 (by decide)⟩, hC _ _ _ _ _ (c_tell (t := w) (by rw [e78]; exact h29) hw ?_)⟩
    have n60 : ¬ nI w = nI 60 := fun z => by have := (nI_eq (by omega) (by omega)).mp z; omega
    have et : gs_tell (J 95) (J 78 29) (J 14 (i + 1)) = (upd (I 95) w (I 14 (i + 1)), nI (w + 1)) := by
      unfold gs_tell
      rw [e78, h29, if_neg n60, e95, e14, nI_clamp (by omega), nI_add]
    rw [et, if_neg (by rw [e78, h29]; exact n60)]
    refine ⟨fun _ => hV _ _ _ _ _ _ _ (next _ _ ?_), fun ne => absurd rfl ne⟩
    refine h.waits (w := w + 1) (fun q a => ?_) ?_ ?_ (by omega) (fun k hk => ?_)
    · rw [sx_up_ne (by omega), sx_up_ne (by omega)]; exact f q (by omega) (by omega)
    · rw [sx_up_ne (by decide), sx_up_ne (by decide)]; exact e15
    · rw [sx_up_same, e78]
    · rw [sx_up_ne (by decide), sx_up_ne (by decide), sx_up_ne (by decide), sx_up_same, e53]
      show upd (I 53) w (I 14 (i + 1)) k = upd (I 95) w (I 14 (i + 1)) k
      by_cases z : k = w
      · rw [z, pk_us, pk_us]
      · rw [pk_un z, pk_un z]; exact hwt k (by omega)
set_option maxRecDepth 100000 in
theorem lw_c41 (h : lw I rw u ln) (hN : ln 14 = N) (hi : i + 6 ≤ N) (next : ∀ J rw', lw J rw' u ln → sx_V 229 (d + 68) (mc + 3) (ms + 196) K 1432 [(0, .ref 14), (1, .ref 15), (2, .ref 78), (3, .int (nI i))] [] J (sx_run rw' (3 * u) ln)) :
    sx_V 229 (d + 68) (mc + 3) (ms + 196) K 1409 [(0, .ref 14), (1, .ref 15), (2, .ref 78), (3, .int (nI i))] [] I (sx_run rw (3 * u) ln) := by
  obtain ⟨⟨hb, -, -⟩, -, -, -, hE, hF, -⟩ := id h
  obtain ⟨t, h7, h14, ht, hby⟩ := id hE
  obtain ⟨w, h11, h29, hw, hwt⟩ := id hF
  have lt : ∀ k, k < 6 → i + k < ln 14 := fun k hk => by omega
  refine sx_go m229 100 rfl (fun VV CC hV hC => ?_)
  refine ⟨i + 1, ⟨nI_add i 1, lt 1 (by decide)⟩, hC _ _ _ _ _ (c1_count hb ?_)⟩
  rw [h11, h7]
  refine ⟨i + 1, ⟨nI_add i 1, lt 1 (by decide)⟩, hC _ _ _ _ _ (c_count ?_)⟩
  rw [h29, h14]
  exact ⟨fun _ => hV _ _ _ _ _ _ _ (next _ _ h), fun ne => absurd rfl ne⟩
end
