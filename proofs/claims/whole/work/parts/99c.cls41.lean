/-! ===== the constructors: a border, a book, the reader, sheets, slots ===== -/
theorem sx_upR_up {R : Nat → Nat → Option Nat} {a : Nat} {f g : Nat → Option Nat} : sx_upR (sx_upR R a f) a g = sx_upR R a g := by
  funext x
  unfold sx_upR
  by_cases h : x = a
  · rw [if_pos h, if_pos h]
  · rw [if_neg h, if_neg h, if_neg h]
/-- a row of references, put in one after the other -/
def iput (g : Nat → Option Nat) (k b : Nat) : Nat → Option Nat := fun i => if i = k then some b else g i
theorem i_step {R1 R : Nat → Nat → Option Nat} {B k b : Nat} {g : Nat → Option Nat} (h : R1 = sx_upR R B g) : sx_upR R1 B (fun i => if i = k then some b else R1 B i) = sx_upR R B (iput g k b) := by
  subst h
  rw [sx_upR_up, sx_upR_same]
  rfl
theorem sx_absR {P : (Nat → Nat → Option Nat) → Prop} {R : Nat → Nat → Option Nat} (T : Nat → Nat → Option Nat) (hQ : R = T) (h : ∀ R, R = T → P R) : P R := h R hQ
theorem sx_absJR {P : sx_I → (Nat → Nat → Option Nat) → Prop} {J : sx_I} {R : Nat → Nat → Option Nat} (Q : sx_I → Prop) (T : Nat → Nat → Option Nat) (hJ : Q J) (hR : R = T) (h : ∀ J R, Q J → R = T → P J R) : P J R := h J R hJ hR
theorem i_none {R : Nat → Nat → Option Nat} {B : Nat} (h : R B = fun _ => none) : R = sx_upR R B (fun _ => none) := by
  funext x
  unfold sx_upR
  by_cases c : x = B
  · rw [if_pos c, c, h]
  · rw [if_neg c]
section
variable {d : Nat} {I : sx_I} {R : Nat → Nat → Option Nat} {ln : Nat → Nat} {K : sx_K}
theorem i_book_19 (hR : R 119 = fun _ => none) (hRw : R 120 = fun _ => none) (h0 : I 119 = fun _ => 0) (hk : ∀ J, (∀ q, q ≠ 119 → q ≠ 27 → J q = I q) → J 119 1 = 0 → (∀ w, w < 3 → J 27 w = -1000000005) → K none J (sx_upR R 119 (sx_mkR (fun _ _ => none) 119), .inl 27, ln)) : sx_C 0 (d + 1) [.ref 119] I (R, .inl 25, ln) K := by
  have key : ∀ R' J, R' = sx_upR R 119 (sx_mkR (fun _ _ => none) 119) → ((∀ q, q ≠ 119 → q ≠ 27 → J q = I q) ∧ J 119 1 = 0 ∧ (∀ w, w < 3 → J 27 w = -1000000005)) → K none J (R', .inl 27, ln) := by
    intro R' J e ⟨a1, a2, a3⟩
    rw [e]
    exact hk J a1 a2 a3
  have eW : sx_upR R 120 (fun _ => none) = R := by
    funext x
    unfold sx_upR
    by_cases h : x = 120
    · rw [if_pos h, h, hRw]
    · rw [if_neg h]
  refine sx_enter (by decide +kernel) (Nat.le_of_ble_eq_true rfl) (sx_go m0 60 rfl (fun VV CC hV hC => ?_))
  refine ⟨rfl, rfl, 0, ⟨rfl, by omega⟩, 1, ⟨rfl, by omega⟩, 2, ⟨rfl, by omega⟩, key _ _ ?_ ⟨fun q h1 h2 => ?_, ?_, fun w hw => ?_⟩⟩
  · rw [eW]
    simp only [sx_upR_up, sx_upR_same, hR]
    refine congrArg (sx_upR R 119) (funext (fun k => ?_))
    match k with
    | 0 => rfl
    | 1 => rfl
    | 2 => rfl
    | k + 3 => rfl
  · rw [sx_up_ne h2, sx_up_ne h2, sx_up_ne h2, sx_up_ne h2, sx_up_ne h1]
  · rfl
  · have : w = 0 ∨ w = 1 ∨ w = 2 := by omega
    rcases this with z | z | z <;> subst z <;> rfl
theorem i_border_19 (hR : R 19 = fun _ => none) (hRw : R 120 = fun _ => none) (h0 : I 19 = fun _ => 0) (hk : ∀ J, (∀ q, (q < 19 ∨ 27 < q) → q ≠ 119 → J q = I q) → (J 19 1 = 0 ∧ J 19 9 = 0 ∧ J 19 10 = nI 1 ∧ J 119 1 = 0) → (∀ w, w < 5 → J (20 + w) = fun _ => 0) → (J 25 0 = nI 3 ∧ J 25 1 = nI 30 ∧ J 25 2 = nI 200 ∧ J 25 3 = nI 20) → (∀ w, w < 3 → J 26 w = 0) → (∀ w, w < 3 → J 27 w = -1000000005) → K none J (sx_upR (sx_upR R 19 (sx_mkR (fun _ _ => none) 19)) 119 (sx_mkR (fun _ _ => none) 119), .inl 27, ln)) : sx_C 5 (d + 2) [.ref 19] I (R, .inl 17, ln) K := by
  have key : ∀ R' J, R' = sx_upR (sx_upR R 19 (sx_mkR (fun _ _ => none) 19)) 119 (sx_mkR (fun _ _ => none) 119) → ((∀ q, (q < 19 ∨ 27 < q) → q ≠ 119 → J q = I q) ∧ (J 19 1 = 0 ∧ J 19 9 = 0 ∧ J 19 10 = nI 1 ∧ J 119 1 = 0) ∧ (∀ w, w < 5 → J (20 + w) = fun _ => 0) ∧ (J 25 0 = nI 3 ∧ J 25 1 = nI 30 ∧ J 25 2 = nI 200 ∧ J 25 3 = nI 20) ∧ (∀ w, w < 3 → J 26 w = 0) ∧ (∀ w, w < 3 → J 27 w = -1000000005)) → K none J (R', .inl 27, ln) := by
    intro R' J e ⟨a1, a2, a3, a4, a5, a6⟩
    rw [e]
    exact hk J a1 a2 a3 a4 a5 a6
  have e0 := i_none hR
  refine sx_enter (by decide +kernel) (Nat.le_of_ble_eq_true rfl) (sx_go m5 100 rfl (fun VV CC hV hC => ?_))
  refine ⟨rfl, ?_⟩
  refine ⟨rfl, ?_⟩
  refine sx_absR (P := fun R => sx_symG VV CC K _ _ _ _ _ _ _ _ (R, _, _)) (sx_upR R 19 (iput (fun _ => none) 2 20)) (i_step e0) (fun R1 e1 => ?_)
  refine ⟨rfl, ?_⟩
  refine sx_absR (P := fun R => sx_symG VV CC K _ _ _ _ _ _ _ _ (R, _, _)) (sx_upR R 19 (iput (iput (fun _ => none) 2 20) 3 21)) (i_step e1) (fun R2 e2 => ?_)
  refine ⟨rfl, ?_⟩
  refine sx_absR (P := fun R => sx_symG VV CC K _ _ _ _ _ _ _ _ (R, _, _)) (sx_upR R 19 (iput (iput (iput (fun _ => none) 2 20) 3 21) 4 22)) (i_step e2) (fun R3 e3 => ?_)
  refine ⟨rfl, ?_⟩
  refine sx_absR (P := fun R => sx_symG VV CC K _ _ _ _ _ _ _ _ (R, _, _)) (sx_upR R 19 (iput (iput (iput (iput (fun _ => none) 2 20) 3 21) 4 22) 5 23)) (i_step e3) (fun R4 e4 => ?_)
  refine ⟨rfl, ?_⟩
  refine sx_absJR (P := fun J R => sx_symG VV CC K _ _ _ _ _ _ _ J (R, _, _)) (fun J => (∀ q, (q < 19 ∨ 25 < q) → J q = I q) ∧ (∀ k, J 19 k = 0) ∧ (∀ w, w < 5 → J (20 + w) = fun _ => 0) ∧ J 25 = fun _ => 0) (sx_upR R 19 (iput (iput (iput (iput (iput (fun _ => none) 2 20) 3 21) 4 22) 5 23) 6 24)) ⟨fun q hq => ?_, fun k => ?_, fun w hw => ?_, ?_⟩ (i_step e4) (fun J6 R6 q6 e6 => ?_)
  · rw [sx_up_ne (by omega), sx_up_ne (by omega), sx_up_ne (by omega), sx_up_ne (by omega), sx_up_ne (by omega), sx_up_ne (by omega), sx_up_ne (by omega)]
  · rw [sx_up_ne (by omega), sx_up_ne (by omega), sx_up_ne (by omega), sx_up_ne (by omega), sx_up_ne (by omega), sx_up_ne (by omega), sx_up_same, h0]
    by_cases c : k = 1
    · rw [c, pk_us]; rfl
    · rw [pk_un c]
  · have : w = 0 ∨ w = 1 ∨ w = 2 ∨ w = 3 ∨ w = 4 := by omega
    rcases this with z | z | z | z | z <;> subst z <;> rfl
  · rfl
  obtain ⟨f1, f2, f3, f4⟩ := q6
  refine ⟨0, ⟨rfl, by omega⟩, 1, ⟨rfl, by omega⟩, 2, ⟨rfl, by omega⟩, 3, ⟨rfl, by omega⟩, rfl, ?_⟩
  refine sx_absJR (P := fun J R => sx_symG VV CC K _ _ _ _ _ _ _ J (R, _, _)) (fun J => (∀ q, (q < 19 ∨ 26 < q) → J q = I q) ∧ (∀ k, J 19 k = 0) ∧ (∀ w, w < 5 → J (20 + w) = fun _ => 0) ∧ (J 25 0 = nI 3 ∧ J 25 1 = nI 30 ∧ J 25 2 = nI 200 ∧ J 25 3 = nI 20) ∧ J 26 = fun _ => 0) (sx_upR R 19 (iput (iput (iput (iput (iput (iput (fun _ => none) 2 20) 3 21) 4 22) 5 23) 6 24) 7 25)) ⟨fun q hq => ?_, fun k => ?_, fun w hw => ?_, ⟨rfl, rfl, rfl, rfl⟩, rfl⟩ (i_step e6) (fun J7 R7 q7 e7 => ?_)
  · rw [sx_up_ne (by omega), sx_up_ne (by omega), sx_up_ne (by omega), sx_up_ne (by omega), sx_up_ne (by omega)]; exact f1 q (by omega)
  · rw [sx_up_ne (by omega), sx_up_ne (by omega), sx_up_ne (by omega), sx_up_ne (by omega), sx_up_ne (by omega)]; exact f2 k
  · rw [sx_up_ne (by omega), sx_up_ne (by omega), sx_up_ne (by omega), sx_up_ne (by omega), sx_up_ne (by omega)]; exact f3 w hw
  obtain ⟨f1, f2, f3, f4, f5⟩ := q7
  refine ⟨0, ⟨rfl, by omega⟩, 1, ⟨rfl, by omega⟩, 2, ⟨rfl, by omega⟩, ?_⟩
  refine sx_absJR (P := fun J R => sx_symG VV CC K _ _ _ _ _ _ _ J (R, _, _)) (fun J => (∀ q, (q < 19 ∨ 26 < q) → J q = I q) ∧ (∀ k, J 19 k = 0) ∧ (∀ w, w < 5 → J (20 + w) = fun _ => 0) ∧ (J 25 0 = nI 3 ∧ J 25 1 = nI 30 ∧ J 25 2 = nI 200 ∧ J 25 3 = nI 20) ∧ (∀ w, w < 3 → J 26 w = 0)) (sx_upR R 19 (iput (iput (iput (iput (iput (iput (fun _ => none) 2 20) 3 21) 4 22) 5 23) 6 24) 7 25)) ⟨fun q hq => ?_, fun k => ?_, fun w hw => ?_, f4, fun w hw => ?_⟩ e7 (fun J8 R8 q8 e8 => ?_)
  · rw [sx_up_ne (by omega), sx_up_ne (by omega), sx_up_ne (by omega)]; exact f1 q (by omega)
  · rw [sx_up_ne (by omega), sx_up_ne (by omega), sx_up_ne (by omega)]; exact f2 k
  · rw [sx_up_ne (by omega), sx_up_ne (by omega), sx_up_ne (by omega)]; exact f3 w hw
  · have : w = 0 ∨ w = 1 ∨ w = 2 := by omega
    rcases this with z | z | z <;> subst z <;> rfl
  obtain ⟨f1, f2, f3, f4, f5⟩ := q8
  have row : iput (iput (iput (iput (iput (iput (iput (iput (fun _ => none) 2 20) 3 21) 4 22) 5 23) 6 24) 7 25) 8 26) 0 119 = sx_mkR (fun _ _ => none) 19 := by
    funext k
    match k with
    | 0 => rfl
    | 1 => rfl
    | 2 => rfl
    | 3 => rfl
    | 4 => rfl
    | 5 => rfl
    | 6 => rfl
    | 7 => rfl
    | 8 => rfl
    | 9 => rfl
    | 10 => rfl
    | k + 11 => rfl
  have e9 := i_step (k := 8) (b := 26) e8
  have eX : ∀ X, X = sx_upR R 19 (iput (iput (iput (iput (iput (iput (iput (fun _ => none) 2 20) 3 21) 4 22) 5 23) 6 24) 7 25) 8 26) → sx_upR (sx_upR (sx_upR X 119 (fun _ => none)) 119 (sx_mkR (fun _ _ => none) 119)) 19 (fun i => if i = 0 then some 119 else sx_upR (sx_upR X 119 (fun _ => none)) 119 (sx_mkR (fun _ _ => none) 119) 19 i) = sx_upR (sx_upR R 19 (sx_mkR (fun _ _ => none) 19)) 119 (sx_mkR (fun _ _ => none) 119) := by
    intro X e
    rw [sx_upR_up, ← row]
    funext q
    by_cases z : q = 19
    · rw [z, sx_upR_same, sx_upR_ne (show (19 : Nat) ≠ 119 by decide), sx_upR_ne (show (19 : Nat) ≠ 119 by decide), e, sx_upR_same, sx_upR_same]
      rfl
    · rw [sx_upR_ne z]
      by_cases y : q = 119
      · rw [y, sx_upR_same, sx_upR_same]
      · rw [sx_upR_ne y, sx_upR_ne y, e, sx_upR_ne z, sx_upR_ne z]
  have eY : ∀ X, X = sx_upR R 19 (iput (iput (iput (iput (iput (iput (iput (fun _ => none) 2 20) 3 21) 4 22) 5 23) 6 24) 7 25) 8 26) → sx_upR X 119 (fun _ => none) 120 = fun _ => none := by
    intro X e
    rw [sx_upR_ne (show (120 : Nat) ≠ 119 by decide), e, sx_upR_ne (show (120 : Nat) ≠ 19 by decide)]
    exact hRw
  refine hC _ _ _ _ _ (i_book_19 (d := d) sx_upR_same ?_ (sx_up_same _ _ _) (fun J h1 h2 h3 => key _ _ ?_ ⟨fun q hq hk => ?_, ⟨?_, ?_, ?_, h2⟩, fun w hw => ?_, ?_, fun w hw => ?_, h3⟩))
  · exact eY _ e9
  · exact eX _ e9
  · rw [h1 q hk (by omega), sx_up_ne hk, sx_up_ne (by omega), sx_up_ne (by omega)]; exact f1 q (by omega)
  · rw [h1 19 (by decide) (by decide)]; exact f2 1
  · rw [h1 19 (by decide) (by decide)]; rfl
  · rw [h1 19 (by decide) (by decide)]; rfl
  · rw [h1 _ (by omega) (by omega), sx_up_ne (by omega), sx_up_ne (by omega), sx_up_ne (by omega)]; exact f3 w hw
  · rw [h1 25 (by decide) (by decide)]; exact f4
  · rw [h1 26 (by decide) (by decide)]; exact f5 w hw
theorem i_book_28 (hR : R 128 = fun _ => none) (hRw : R 129 = fun _ => none) (h0 : I 128 = fun _ => 0) (hk : ∀ J, (∀ q, q ≠ 128 → q ≠ 36 → J q = I q) → J 128 1 = 0 → (∀ w, w < 3 → J 36 w = -1000000005) → K none J (sx_upR R 128 (sx_mkR (fun _ _ => none) 128), .inl 38, ln)) : sx_C 0 (d + 1) [.ref 128] I (R, .inl 36, ln) K := by
  have key : ∀ R' J, R' = sx_upR R 128 (sx_mkR (fun _ _ => none) 128) → ((∀ q, q ≠ 128 → q ≠ 36 → J q = I q) ∧ J 128 1 = 0 ∧ (∀ w, w < 3 → J 36 w = -1000000005)) → K none J (R', .inl 38, ln) := by
    intro R' J e ⟨a1, a2, a3⟩
    rw [e]
    exact hk J a1 a2 a3
  have eW : sx_upR R 129 (fun _ => none) = R := by
    funext x
    unfold sx_upR
    by_cases h : x = 129
    · rw [if_pos h, h, hRw]
    · rw [if_neg h]
  refine sx_enter (by decide +kernel) (Nat.le_of_ble_eq_true rfl) (sx_go m0 60 rfl (fun VV CC hV hC => ?_))
  refine ⟨rfl, rfl, 0, ⟨rfl, by omega⟩, 1, ⟨rfl, by omega⟩, 2, ⟨rfl, by omega⟩, key _ _ ?_ ⟨fun q h1 h2 => ?_, ?_, fun w hw => ?_⟩⟩
  · rw [eW]
    simp only [sx_upR_up, sx_upR_same, hR]
    refine congrArg (sx_upR R 128) (funext (fun k => ?_))
    match k with
    | 0 => rfl
    | 1 => rfl
    | 2 => rfl
    | k + 3 => rfl
  · rw [sx_up_ne h2, sx_up_ne h2, sx_up_ne h2, sx_up_ne h2, sx_up_ne h1]
  · rfl
  · have : w = 0 ∨ w = 1 ∨ w = 2 := by omega
    rcases this with z | z | z <;> subst z <;> rfl
theorem i_border_28 (hR : R 28 = fun _ => none) (hRw : R 129 = fun _ => none) (h0 : I 28 = fun _ => 0) (hk : ∀ J, (∀ q, (q < 28 ∨ 36 < q) → q ≠ 128 → J q = I q) → (J 28 1 = 0 ∧ J 28 9 = 0 ∧ J 28 10 = nI 1 ∧ J 128 1 = 0) → (∀ w, w < 5 → J (29 + w) = fun _ => 0) → (J 34 0 = nI 3 ∧ J 34 1 = nI 30 ∧ J 34 2 = nI 200 ∧ J 34 3 = nI 20) → (∀ w, w < 3 → J 35 w = 0) → (∀ w, w < 3 → J 36 w = -1000000005) → K none J (sx_upR (sx_upR R 28 (sx_mkR (fun _ _ => none) 28)) 128 (sx_mkR (fun _ _ => none) 128), .inl 38, ln)) : sx_C 5 (d + 2) [.ref 28] I (R, .inl 28, ln) K := by
  have key : ∀ R' J, R' = sx_upR (sx_upR R 28 (sx_mkR (fun _ _ => none) 28)) 128 (sx_mkR (fun _ _ => none) 128) → ((∀ q, (q < 28 ∨ 36 < q) → q ≠ 128 → J q = I q) ∧ (J 28 1 = 0 ∧ J 28 9 = 0 ∧ J 28 10 = nI 1 ∧ J 128 1 = 0) ∧ (∀ w, w < 5 → J (29 + w) = fun _ => 0) ∧ (J 34 0 = nI 3 ∧ J 34 1 = nI 30 ∧ J 34 2 = nI 200 ∧ J 34 3 = nI 20) ∧ (∀ w, w < 3 → J 35 w = 0) ∧ (∀ w, w < 3 → J 36 w = -1000000005)) → K none J (R', .inl 38, ln) := by
    intro R' J e ⟨a1, a2, a3, a4, a5, a6⟩
    rw [e]
    exact hk J a1 a2 a3 a4 a5 a6
  have e0 := i_none hR
  refine sx_enter (by decide +kernel) (Nat.le_of_ble_eq_true rfl) (sx_go m5 100 rfl (fun VV CC hV hC => ?_))
  refine ⟨rfl, ?_⟩
  refine ⟨rfl, ?_⟩
  refine sx_absR (P := fun R => sx_symG VV CC K _ _ _ _ _ _ _ _ (R, _, _)) (sx_upR R 28 (iput (fun _ => none) 2 29)) (i_step e0) (fun R1 e1 => ?_)
  refine ⟨rfl, ?_⟩
  refine sx_absR (P := fun R => sx_symG VV CC K _ _ _ _ _ _ _ _ (R, _, _)) (sx_upR R 28 (iput (iput (fun _ => none) 2 29) 3 30)) (i_step e1) (fun R2 e2 => ?_)
  refine ⟨rfl, ?_⟩
  refine sx_absR (P := fun R => sx_symG VV CC K _ _ _ _ _ _ _ _ (R, _, _)) (sx_upR R 28 (iput (iput (iput (fun _ => none) 2 29) 3 30) 4 31)) (i_step e2) (fun R3 e3 => ?_)
  refine ⟨rfl, ?_⟩
  refine sx_absR (P := fun R => sx_symG VV CC K _ _ _ _ _ _ _ _ (R, _, _)) (sx_upR R 28 (iput (iput (iput (iput (fun _ => none) 2 29) 3 30) 4 31) 5 32)) (i_step e3) (fun R4 e4 => ?_)
  refine ⟨rfl, ?_⟩
  refine sx_absJR (P := fun J R => sx_symG VV CC K _ _ _ _ _ _ _ J (R, _, _)) (fun J => (∀ q, (q < 28 ∨ 34 < q) → J q = I q) ∧ (∀ k, J 28 k = 0) ∧ (∀ w, w < 5 → J (29 + w) = fun _ => 0) ∧ J 34 = fun _ => 0) (sx_upR R 28 (iput (iput (iput (iput (iput (fun _ => none) 2 29) 3 30) 4 31) 5 32) 6 33)) ⟨fun q hq => ?_, fun k => ?_, fun w hw => ?_, ?_⟩ (i_step e4) (fun J6 R6 q6 e6 => ?_)
  · rw [sx_up_ne (by omega), sx_up_ne (by omega), sx_up_ne (by omega), sx_up_ne (by omega), sx_up_ne (by omega), sx_up_ne (by omega), sx_up_ne (by omega)]
  · rw [sx_up_ne (by omega), sx_up_ne (by omega), sx_up_ne (by omega), sx_up_ne (by omega), sx_up_ne (by omega), sx_up_ne (by omega), sx_up_same, h0]
    by_cases c : k = 1
    · rw [c, pk_us]; rfl
    · rw [pk_un c]
  · have : w = 0 ∨ w = 1 ∨ w = 2 ∨ w = 3 ∨ w = 4 := by omega
    rcases this with z | z | z | z | z <;> subst z <;> rfl
  · rfl
  obtain ⟨f1, f2, f3, f4⟩ := q6
  refine ⟨0, ⟨rfl, by omega⟩, 1, ⟨rfl, by omega⟩, 2, ⟨rfl, by omega⟩, 3, ⟨rfl, by omega⟩, rfl, ?_⟩
  refine sx_absJR (P := fun J R => sx_symG VV CC K _ _ _ _ _ _ _ J (R, _, _)) (fun J => (∀ q, (q < 28 ∨ 35 < q) → J q = I q) ∧ (∀ k, J 28 k = 0) ∧ (∀ w, w < 5 → J (29 + w) = fun _ => 0) ∧ (J 34 0 = nI 3 ∧ J 34 1 = nI 30 ∧ J 34 2 = nI 200 ∧ J 34 3 = nI 20) ∧ J 35 = fun _ => 0) (sx_upR R 28 (iput (iput (iput (iput (iput (iput (fun _ => none) 2 29) 3 30) 4 31) 5 32) 6 33) 7 34)) ⟨fun q hq => ?_, fun k => ?_, fun w hw => ?_, ⟨rfl, rfl, rfl, rfl⟩, rfl⟩ (i_step e6) (fun J7 R7 q7 e7 => ?_)
  · rw [sx_up_ne (by omega), sx_up_ne (by omega), sx_up_ne (by omega), sx_up_ne (by omega), sx_up_ne (by omega)]; exact f1 q (by omega)
  · rw [sx_up_ne (by omega), sx_up_ne (by omega), sx_up_ne (by omega), sx_up_ne (by omega), sx_up_ne (by omega)]; exact f2 k
  · rw [sx_up_ne (by omega), sx_up_ne (by omega), sx_up_ne (by omega), sx_up_ne (by omega), sx_up_ne (by omega)]; exact f3 w hw
  obtain ⟨f1, f2, f3, f4, f5⟩ := q7
  refine ⟨0, ⟨rfl, by omega⟩, 1, ⟨rfl, by omega⟩, 2, ⟨rfl, by omega⟩, ?_⟩
  refine sx_absJR (P := fun J R => sx_symG VV CC K _ _ _ _ _ _ _ J (R, _, _)) (fun J => (∀ q, (q < 28 ∨ 35 < q) → J q = I q) ∧ (∀ k, J 28 k = 0) ∧ (∀ w, w < 5 → J (29 + w) = fun _ => 0) ∧ (J 34 0 = nI 3 ∧ J 34 1 = nI 30 ∧ J 34 2 = nI 200 ∧ J 34 3 = nI 20) ∧ (∀ w, w < 3 → J 35 w = 0)) (sx_upR R 28 (iput (iput (iput (iput (iput (iput (fun _ => none) 2 29) 3 30) 4 31) 5 32) 6 33) 7 34)) ⟨fun q hq => ?_, fun k => ?_, fun w hw => ?_, f4, fun w hw => ?_⟩ e7 (fun J8 R8 q8 e8 => ?_)
  · rw [sx_up_ne (by omega), sx_up_ne (by omega), sx_up_ne (by omega)]; exact f1 q (by omega)
  · rw [sx_up_ne (by omega), sx_up_ne (by omega), sx_up_ne (by omega)]; exact f2 k
  · rw [sx_up_ne (by omega), sx_up_ne (by omega), sx_up_ne (by omega)]; exact f3 w hw
  · have : w = 0 ∨ w = 1 ∨ w = 2 := by omega
    rcases this with z | z | z <;> subst z <;> rfl
  obtain ⟨f1, f2, f3, f4, f5⟩ := q8
  have row : iput (iput (iput (iput (iput (iput (iput (iput (fun _ => none) 2 29) 3 30) 4 31) 5 32) 6 33) 7 34) 8 35) 0 128 = sx_mkR (fun _ _ => none) 28 := by
    funext k
    match k with
    | 0 => rfl
    | 1 => rfl
    | 2 => rfl
    | 3 => rfl
    | 4 => rfl
    | 5 => rfl
    | 6 => rfl
    | 7 => rfl
    | 8 => rfl
    | 9 => rfl
    | 10 => rfl
    | k + 11 => rfl
  have e9 := i_step (k := 8) (b := 35) e8
  have eX : ∀ X, X = sx_upR R 28 (iput (iput (iput (iput (iput (iput (iput (fun _ => none) 2 29) 3 30) 4 31) 5 32) 6 33) 7 34) 8 35) → sx_upR (sx_upR (sx_upR X 128 (fun _ => none)) 128 (sx_mkR (fun _ _ => none) 128)) 28 (fun i => if i = 0 then some 128 else sx_upR (sx_upR X 128 (fun _ => none)) 128 (sx_mkR (fun _ _ => none) 128) 28 i) = sx_upR (sx_upR R 28 (sx_mkR (fun _ _ => none) 28)) 128 (sx_mkR (fun _ _ => none) 128) := by
    intro X e
    rw [sx_upR_up, ← row]
    funext q
    by_cases z : q = 28
    · rw [z, sx_upR_same, sx_upR_ne (show (28 : Nat) ≠ 128 by decide), sx_upR_ne (show (28 : Nat) ≠ 128 by decide), e, sx_upR_same, sx_upR_same]
      rfl
    · rw [sx_upR_ne z]
      by_cases y : q = 128
      · rw [y, sx_upR_same, sx_upR_same]
      · rw [sx_upR_ne y, sx_upR_ne y, e, sx_upR_ne z, sx_upR_ne z]
  have eY : ∀ X, X = sx_upR R 28 (iput (iput (iput (iput (iput (iput (iput (fun _ => none) 2 29) 3 30) 4 31) 5 32) 6 33) 7 34) 8 35) → sx_upR X 128 (fun _ => none) 129 = fun _ => none := by
    intro X e
    rw [sx_upR_ne (show (129 : Nat) ≠ 128 by decide), e, sx_upR_ne (show (129 : Nat) ≠ 28 by decide)]
    exact hRw
  refine hC _ _ _ _ _ (i_book_28 (d := d) sx_upR_same ?_ (sx_up_same _ _ _) (fun J h1 h2 h3 => key _ _ ?_ ⟨fun q hq hk => ?_, ⟨?_, ?_, ?_, h2⟩, fun w hw => ?_, ?_, fun w hw => ?_, h3⟩))
  · exact eY _ e9
  · exact eX _ e9
  · rw [h1 q hk (by omega), sx_up_ne hk, sx_up_ne (by omega), sx_up_ne (by omega)]; exact f1 q (by omega)
  · rw [h1 28 (by decide) (by decide)]; exact f2 1
  · rw [h1 28 (by decide) (by decide)]; rfl
  · rw [h1 28 (by decide) (by decide)]; rfl
  · rw [h1 _ (by omega) (by omega), sx_up_ne (by omega), sx_up_ne (by omega), sx_up_ne (by omega)]; exact f3 w hw
  · rw [h1 34 (by decide) (by decide)]; exact f4
  · rw [h1 35 (by decide) (by decide)]; exact f5 w hw
theorem i_book_37 (hR : R 137 = fun _ => none) (hRw : R 138 = fun _ => none) (h0 : I 137 = fun _ => 0) (hk : ∀ J, (∀ q, q ≠ 137 → q ≠ 45 → J q = I q) → J 137 1 = 0 → (∀ w, w < 3 → J 45 w = -1000000005) → K none J (sx_upR R 137 (sx_mkR (fun _ _ => none) 137), .inl 49, ln)) : sx_C 0 (d + 1) [.ref 137] I (R, .inl 47, ln) K := by
  have key : ∀ R' J, R' = sx_upR R 137 (sx_mkR (fun _ _ => none) 137) → ((∀ q, q ≠ 137 → q ≠ 45 → J q = I q) ∧ J 137 1 = 0 ∧ (∀ w, w < 3 → J 45 w = -1000000005)) → K none J (R', .inl 49, ln) := by
    intro R' J e ⟨a1, a2, a3⟩
    rw [e]
    exact hk J a1 a2 a3
  have eW : sx_upR R 138 (fun _ => none) = R := by
    funext x
    unfold sx_upR
    by_cases h : x = 138
    · rw [if_pos h, h, hRw]
    · rw [if_neg h]
  refine sx_enter (by decide +kernel) (Nat.le_of_ble_eq_true rfl) (sx_go m0 60 rfl (fun VV CC hV hC => ?_))
  refine ⟨rfl, rfl, 0, ⟨rfl, by omega⟩, 1, ⟨rfl, by omega⟩, 2, ⟨rfl, by omega⟩, key _ _ ?_ ⟨fun q h1 h2 => ?_, ?_, fun w hw => ?_⟩⟩
  · rw [eW]
    simp only [sx_upR_up, sx_upR_same, hR]
    refine congrArg (sx_upR R 137) (funext (fun k => ?_))
    match k with
    | 0 => rfl
    | 1 => rfl
    | 2 => rfl
    | k + 3 => rfl
  · rw [sx_up_ne h2, sx_up_ne h2, sx_up_ne h2, sx_up_ne h2, sx_up_ne h1]
  · rfl
  · have : w = 0 ∨ w = 1 ∨ w = 2 := by omega
    rcases this with z | z | z <;> subst z <;> rfl
theorem i_border_37 (hR : R 37 = fun _ => none) (hRw : R 138 = fun _ => none) (h0 : I 37 = fun _ => 0) (hk : ∀ J, (∀ q, (q < 37 ∨ 45 < q) → q ≠ 137 → J q = I q) → (J 37 1 = 0 ∧ J 37 9 = 0 ∧ J 37 10 = nI 1 ∧ J 137 1 = 0) → (∀ w, w < 5 → J (38 + w) = fun _ => 0) → (J 43 0 = nI 3 ∧ J 43 1 = nI 30 ∧ J 43 2 = nI 200 ∧ J 43 3 = nI 20) → (∀ w, w < 3 → J 44 w = 0) → (∀ w, w < 3 → J 45 w = -1000000005) → K none J (sx_upR (sx_upR R 37 (sx_mkR (fun _ _ => none) 37)) 137 (sx_mkR (fun _ _ => none) 137), .inl 49, ln)) : sx_C 5 (d + 2) [.ref 37] I (R, .inl 39, ln) K := by
  have key : ∀ R' J, R' = sx_upR (sx_upR R 37 (sx_mkR (fun _ _ => none) 37)) 137 (sx_mkR (fun _ _ => none) 137) → ((∀ q, (q < 37 ∨ 45 < q) → q ≠ 137 → J q = I q) ∧ (J 37 1 = 0 ∧ J 37 9 = 0 ∧ J 37 10 = nI 1 ∧ J 137 1 = 0) ∧ (∀ w, w < 5 → J (38 + w) = fun _ => 0) ∧ (J 43 0 = nI 3 ∧ J 43 1 = nI 30 ∧ J 43 2 = nI 200 ∧ J 43 3 = nI 20) ∧ (∀ w, w < 3 → J 44 w = 0) ∧ (∀ w, w < 3 → J 45 w = -1000000005)) → K none J (R', .inl 49, ln) := by
    intro R' J e ⟨a1, a2, a3, a4, a5, a6⟩
    rw [e]
    exact hk J a1 a2 a3 a4 a5 a6
  have e0 := i_none hR
  refine sx_enter (by decide +kernel) (Nat.le_of_ble_eq_true rfl) (sx_go m5 100 rfl (fun VV CC hV hC => ?_))
  refine ⟨rfl, ?_⟩
  refine ⟨rfl, ?_⟩
  refine sx_absR (P := fun R => sx_symG VV CC K _ _ _ _ _ _ _ _ (R, _, _)) (sx_upR R 37 (iput (fun _ => none) 2 38)) (i_step e0) (fun R1 e1 => ?_)
  refine ⟨rfl, ?_⟩
  refine sx_absR (P := fun R => sx_symG VV CC K _ _ _ _ _ _ _ _ (R, _, _)) (sx_upR R 37 (iput (iput (fun _ => none) 2 38) 3 39)) (i_step e1) (fun R2 e2 => ?_)
  refine ⟨rfl, ?_⟩
  refine sx_absR (P := fun R => sx_symG VV CC K _ _ _ _ _ _ _ _ (R, _, _)) (sx_upR R 37 (iput (iput (iput (fun _ => none) 2 38) 3 39) 4 40)) (i_step e2) (fun R3 e3 => ?_)
  refine ⟨rfl, ?_⟩
  refine sx_absR (P := fun R => sx_symG VV CC K _ _ _ _ _ _ _ _ (R, _, _)) (sx_upR R 37 (iput (iput (iput (iput (fun _ => none) 2 38) 3 39) 4 40) 5 41)) (i_step e3) (fun R4 e4 => ?_)
  refine ⟨rfl, ?_⟩
  refine sx_absJR (P := fun J R => sx_symG VV CC K _ _ _ _ _ _ _ J (R, _, _)) (fun J => (∀ q, (q < 37 ∨ 43 < q) → J q = I q) ∧ (∀ k, J 37 k = 0) ∧ (∀ w, w < 5 → J (38 + w) = fun _ => 0) ∧ J 43 = fun _ => 0) (sx_upR R 37 (iput (iput (iput (iput (iput (fun _ => none) 2 38) 3 39) 4 40) 5 41) 6 42)) ⟨fun q hq => ?_, fun k => ?_, fun w hw => ?_, ?_⟩ (i_step e4) (fun J6 R6 q6 e6 => ?_)
  · rw [sx_up_ne (by omega), sx_up_ne (by omega), sx_up_ne (by omega), sx_up_ne (by omega), sx_up_ne (by omega), sx_up_ne (by omega), sx_up_ne (by omega)]
  · rw [sx_up_ne (by omega), sx_up_ne (by omega), sx_up_ne (by omega), sx_up_ne (by omega), sx_up_ne (by omega), sx_up_ne (by omega), sx_up_same, h0]
    by_cases c : k = 1
    · rw [c, pk_us]; rfl
    · rw [pk_un c]
  · have : w = 0 ∨ w = 1 ∨ w = 2 ∨ w = 3 ∨ w = 4 := by omega
    rcases this with z | z | z | z | z <;> subst z <;> rfl
  · rfl
  obtain ⟨f1, f2, f3, f4⟩ := q6
  refine ⟨0, ⟨rfl, by omega⟩, 1, ⟨rfl, by omega⟩, 2, ⟨rfl, by omega⟩, 3, ⟨rfl, by omega⟩, rfl, ?_⟩
  refine sx_absJR (P := fun J R => sx_symG VV CC K _ _ _ _ _ _ _ J (R, _, _)) (fun J => (∀ q, (q < 37 ∨ 44 < q) → J q = I q) ∧ (∀ k, J 37 k = 0) ∧ (∀ w, w < 5 → J (38 + w) = fun _ => 0) ∧ (J 43 0 = nI 3 ∧ J 43 1 = nI 30 ∧ J 43 2 = nI 200 ∧ J 43 3 = nI 20) ∧ J 44 = fun _ => 0) (sx_upR R 37 (iput (iput (iput (iput (iput (iput (fun _ => none) 2 38) 3 39) 4 40) 5 41) 6 42) 7 43)) ⟨fun q hq => ?_, fun k => ?_, fun w hw => ?_, ⟨rfl, rfl, rfl, rfl⟩, rfl⟩ (i_step e6) (fun J7 R7 q7 e7 => ?_)
  · rw [sx_up_ne (by omega), sx_up_ne (by omega), sx_up_ne (by omega), sx_up_ne (by omega), sx_up_ne (by omega)]; exact f1 q (by omega)
  · rw [sx_up_ne (by omega), sx_up_ne (by omega), sx_up_ne (by omega), sx_up_ne (by omega), sx_up_ne (by omega)]; exact f2 k
  · rw [sx_up_ne (by omega), sx_up_ne (by omega), sx_up_ne (by omega), sx_up_ne (by omega), sx_up_ne (by omega)]; exact f3 w hw
  obtain ⟨f1, f2, f3, f4, f5⟩ := q7
  refine ⟨0, ⟨rfl, by omega⟩, 1, ⟨rfl, by omega⟩, 2, ⟨rfl, by omega⟩, ?_⟩
  refine sx_absJR (P := fun J R => sx_symG VV CC K _ _ _ _ _ _ _ J (R, _, _)) (fun J => (∀ q, (q < 37 ∨ 44 < q) → J q = I q) ∧ (∀ k, J 37 k = 0) ∧ (∀ w, w < 5 → J (38 + w) = fun _ => 0) ∧ (J 43 0 = nI 3 ∧ J 43 1 = nI 30 ∧ J 43 2 = nI 200 ∧ J 43 3 = nI 20) ∧ (∀ w, w < 3 → J 44 w = 0)) (sx_upR R 37 (iput (iput (iput (iput (iput (iput (fun _ => none) 2 38) 3 39) 4 40) 5 41) 6 42) 7 43)) ⟨fun q hq => ?_, fun k => ?_, fun w hw => ?_, f4, fun w hw => ?_⟩ e7 (fun J8 R8 q8 e8 => ?_)
  · rw [sx_up_ne (by omega), sx_up_ne (by omega), sx_up_ne (by omega)]; exact f1 q (by omega)
  · rw [sx_up_ne (by omega), sx_up_ne (by omega), sx_up_ne (by omega)]; exact f2 k
  · rw [sx_up_ne (by omega), sx_up_ne (by omega), sx_up_ne (by omega)]; exact f3 w hw
  · have : w = 0 ∨ w = 1 ∨ w = 2 := by omega
    rcases this with z | z | z <;> subst z <;> rfl
  obtain ⟨f1, f2, f3, f4, f5⟩ := q8
  have row : iput (iput (iput (iput (iput (iput (iput (iput (fun _ => none) 2 38) 3 39) 4 40) 5 41) 6 42) 7 43) 8 44) 0 137 = sx_mkR (fun _ _ => none) 37 := by
    funext k
    match k with
    | 0 => rfl
    | 1 => rfl
    | 2 => rfl
    | 3 => rfl
    | 4 => rfl
    | 5 => rfl
    | 6 => rfl
    | 7 => rfl
    | 8 => rfl
    | 9 => rfl
    | 10 => rfl
    | k + 11 => rfl
  have e9 := i_step (k := 8) (b := 44) e8
  have eX : ∀ X, X = sx_upR R 37 (iput (iput (iput (iput (iput (iput (iput (fun _ => none) 2 38) 3 39) 4 40) 5 41) 6 42) 7 43) 8 44) → sx_upR (sx_upR (sx_upR X 137 (fun _ => none)) 137 (sx_mkR (fun _ _ => none) 137)) 37 (fun i => if i = 0 then some 137 else sx_upR (sx_upR X 137 (fun _ => none)) 137 (sx_mkR (fun _ _ => none) 137) 37 i) = sx_upR (sx_upR R 37 (sx_mkR (fun _ _ => none) 37)) 137 (sx_mkR (fun _ _ => none) 137) := by
    intro X e
    rw [sx_upR_up, ← row]
    funext q
    by_cases z : q = 37
    · rw [z, sx_upR_same, sx_upR_ne (show (37 : Nat) ≠ 137 by decide), sx_upR_ne (show (37 : Nat) ≠ 137 by decide), e, sx_upR_same, sx_upR_same]
      rfl
    · rw [sx_upR_ne z]
      by_cases y : q = 137
      · rw [y, sx_upR_same, sx_upR_same]
      · rw [sx_upR_ne y, sx_upR_ne y, e, sx_upR_ne z, sx_upR_ne z]
  have eY : ∀ X, X = sx_upR R 37 (iput (iput (iput (iput (iput (iput (iput (fun _ => none) 2 38) 3 39) 4 40) 5 41) 6 42) 7 43) 8 44) → sx_upR X 137 (fun _ => none) 138 = fun _ => none := by
    intro X e
    rw [sx_upR_ne (show (138 : Nat) ≠ 137 by decide), e, sx_upR_ne (show (138 : Nat) ≠ 37 by decide)]
    exact hRw
  refine hC _ _ _ _ _ (i_book_37 (d := d) sx_upR_same ?_ (sx_up_same _ _ _) (fun J h1 h2 h3 => key _ _ ?_ ⟨fun q hq hk => ?_, ⟨?_, ?_, ?_, h2⟩, fun w hw => ?_, ?_, fun w hw => ?_, h3⟩))
  · exact eY _ e9
  · exact eX _ e9
  · rw [h1 q hk (by omega), sx_up_ne hk, sx_up_ne (by omega), sx_up_ne (by omega)]; exact f1 q (by omega)
  · rw [h1 37 (by decide) (by decide)]; exact f2 1
  · rw [h1 37 (by decide) (by decide)]; rfl
  · rw [h1 37 (by decide) (by decide)]; rfl
  · rw [h1 _ (by omega) (by omega), sx_up_ne (by omega), sx_up_ne (by omega), sx_up_ne (by omega)]; exact f3 w hw
  · rw [h1 43 (by decide) (by decide)]; exact f4
  · rw [h1 44 (by decide) (by decide)]; exact f5 w hw
theorem i_reader (hR : R 46 = fun _ => none) (hk : ∀ J, (∀ q, (q < 47 ∨ 49 < q) → J q = I q) → K none J (sx_upR R 46 (sx_mkR (fun _ _ => none) 46), .inl 53, ln)) : sx_C 31 (d + 1) [.ref 46] I (R, .inl 50, ln) K := by
  have key : ∀ R' J, R' = sx_upR R 46 (sx_mkR (fun _ _ => none) 46) → (∀ q, (q < 47 ∨ 49 < q) → J q = I q) → K none J (R', .inl 53, ln) := by
    intro R' J e h
    rw [e]
    exact hk J h
  refine sx_enter (by decide +kernel) (Nat.le_of_ble_eq_true rfl) (sx_go m31 60 rfl (fun VV CC hV hC => ?_))
  refine ⟨rfl, rfl, rfl, key _ _ ?_ (fun q hq => ?_)⟩
  · simp only [sx_upR_up, sx_upR_same, hR]
    refine congrArg (sx_upR R 46) (funext (fun k => ?_))
    match k with
    | 0 => rfl
    | 1 => rfl
    | 2 => rfl
    | 3 => rfl
    | 4 => rfl
    | 5 => rfl
    | 6 => rfl
    | 7 => rfl
    | 8 => rfl
    | 9 => rfl
    | k + 10 => rfl
  · rw [sx_up_ne (by omega), sx_up_ne (by omega), sx_up_ne (by omega)]
theorem i_sheet_55 (hR : R 55 = fun _ => none) (hk : ∀ J, (∀ q, q ≠ 55 → q ≠ 56 → J q = I q) → J 55 0 = -1 → J 55 1 = 0 → J 56 = (fun _ => 0) → K none J (sx_upR R 55 (sx_mkR (fun _ _ => none) 55), .inl (59 + 1), ln)) : sx_C 51 (d + 1) [.ref 55] I (R, .inl 59, ln) K := by
  have key : ∀ R' J, R' = sx_upR R 55 (sx_mkR (fun _ _ => none) 55) → ((∀ q, q ≠ 55 → q ≠ 56 → J q = I q) ∧ J 55 0 = -1 ∧ J 55 1 = 0 ∧ J 56 = (fun _ => 0)) → K none J (R', .inl (59 + 1), ln) := by
    intro R' J e ⟨a1, a2, a3, a4⟩
    rw [e]
    exact hk J a1 a2 a3 a4
  refine sx_enter (by decide +kernel) (Nat.le_of_ble_eq_true rfl) (sx_go m51 60 rfl (fun VV CC hV hC => ?_))
  refine ⟨rfl, key _ _ ?_ ⟨fun q h1 h2 => ?_, ?_, ?_, ?_⟩⟩
  · simp only [sx_upR_up, sx_upR_same, hR]
    refine congrArg (sx_upR R 55) (funext (fun k => ?_))
    match k with
    | 0 => rfl
    | 1 => rfl
    | 2 => rfl
    | k + 3 => rfl
  · rw [sx_up_ne h2, sx_up_ne h1, sx_up_ne h1]
  · rfl
  · rfl
  · rfl
theorem i_sheet_57 (hR : R 57 = fun _ => none) (hk : ∀ J, (∀ q, q ≠ 57 → q ≠ 58 → J q = I q) → J 57 0 = -1 → J 57 1 = 0 → J 58 = (fun _ => 0) → K none J (sx_upR R 57 (sx_mkR (fun _ _ => none) 57), .inl (61 + 1), ln)) : sx_C 51 (d + 1) [.ref 57] I (R, .inl 61, ln) K := by
  have key : ∀ R' J, R' = sx_upR R 57 (sx_mkR (fun _ _ => none) 57) → ((∀ q, q ≠ 57 → q ≠ 58 → J q = I q) ∧ J 57 0 = -1 ∧ J 57 1 = 0 ∧ J 58 = (fun _ => 0)) → K none J (R', .inl (61 + 1), ln) := by
    intro R' J e ⟨a1, a2, a3, a4⟩
    rw [e]
    exact hk J a1 a2 a3 a4
  refine sx_enter (by decide +kernel) (Nat.le_of_ble_eq_true rfl) (sx_go m51 60 rfl (fun VV CC hV hC => ?_))
  refine ⟨rfl, key _ _ ?_ ⟨fun q h1 h2 => ?_, ?_, ?_, ?_⟩⟩
  · simp only [sx_upR_up, sx_upR_same, hR]
    refine congrArg (sx_upR R 57) (funext (fun k => ?_))
    match k with
    | 0 => rfl
    | 1 => rfl
    | 2 => rfl
    | k + 3 => rfl
  · rw [sx_up_ne h2, sx_up_ne h1, sx_up_ne h1]
  · rfl
  · rfl
  · rfl
theorem i_sheet_59 (hR : R 59 = fun _ => none) (hk : ∀ J, (∀ q, q ≠ 59 → q ≠ 60 → J q = I q) → J 59 0 = -1 → J 59 1 = 0 → J 60 = (fun _ => 0) → K none J (sx_upR R 59 (sx_mkR (fun _ _ => none) 59), .inl (63 + 1), ln)) : sx_C 51 (d + 1) [.ref 59] I (R, .inl 63, ln) K := by
  have key : ∀ R' J, R' = sx_upR R 59 (sx_mkR (fun _ _ => none) 59) → ((∀ q, q ≠ 59 → q ≠ 60 → J q = I q) ∧ J 59 0 = -1 ∧ J 59 1 = 0 ∧ J 60 = (fun _ => 0)) → K none J (R', .inl (63 + 1), ln) := by
    intro R' J e ⟨a1, a2, a3, a4⟩
    rw [e]
    exact hk J a1 a2 a3 a4
  refine sx_enter (by decide +kernel) (Nat.le_of_ble_eq_true rfl) (sx_go m51 60 rfl (fun VV CC hV hC => ?_))
  refine ⟨rfl, key _ _ ?_ ⟨fun q h1 h2 => ?_, ?_, ?_, ?_⟩⟩
  · simp only [sx_upR_up, sx_upR_same, hR]
    refine congrArg (sx_upR R 59) (funext (fun k => ?_))
    match k with
    | 0 => rfl
    | 1 => rfl
    | 2 => rfl
    | k + 3 => rfl
  · rw [sx_up_ne h2, sx_up_ne h1, sx_up_ne h1]
  · rfl
  · rfl
  · rfl
theorem i_sheet_61 (hR : R 61 = fun _ => none) (hk : ∀ J, (∀ q, q ≠ 61 → q ≠ 62 → J q = I q) → J 61 0 = -1 → J 61 1 = 0 → J 62 = (fun _ => 0) → K none J (sx_upR R 61 (sx_mkR (fun _ _ => none) 61), .inl (65 + 1), ln)) : sx_C 51 (d + 1) [.ref 61] I (R, .inl 65, ln) K := by
  have key : ∀ R' J, R' = sx_upR R 61 (sx_mkR (fun _ _ => none) 61) → ((∀ q, q ≠ 61 → q ≠ 62 → J q = I q) ∧ J 61 0 = -1 ∧ J 61 1 = 0 ∧ J 62 = (fun _ => 0)) → K none J (R', .inl (65 + 1), ln) := by
    intro R' J e ⟨a1, a2, a3, a4⟩
    rw [e]
    exact hk J a1 a2 a3 a4
  refine sx_enter (by decide +kernel) (Nat.le_of_ble_eq_true rfl) (sx_go m51 60 rfl (fun VV CC hV hC => ?_))
  refine ⟨rfl, key _ _ ?_ ⟨fun q h1 h2 => ?_, ?_, ?_, ?_⟩⟩
  · simp only [sx_upR_up, sx_upR_same, hR]
    refine congrArg (sx_upR R 61) (funext (fun k => ?_))
    match k with
    | 0 => rfl
    | 1 => rfl
    | 2 => rfl
    | k + 3 => rfl
  · rw [sx_up_ne h2, sx_up_ne h1, sx_up_ne h1]
  · rfl
  · rfl
  · rfl
theorem i_sheet_64 (hR : R 64 = fun _ => none) (hk : ∀ J, (∀ q, q ≠ 64 → q ≠ 65 → J q = I q) → J 64 0 = -1 → J 64 1 = 0 → J 65 = (fun _ => 0) → K none J (sx_upR R 64 (sx_mkR (fun _ _ => none) 64), .inl (68 + 1), ln)) : sx_C 51 (d + 1) [.ref 64] I (R, .inl 68, ln) K := by
  have key : ∀ R' J, R' = sx_upR R 64 (sx_mkR (fun _ _ => none) 64) → ((∀ q, q ≠ 64 → q ≠ 65 → J q = I q) ∧ J 64 0 = -1 ∧ J 64 1 = 0 ∧ J 65 = (fun _ => 0)) → K none J (R', .inl (68 + 1), ln) := by
    intro R' J e ⟨a1, a2, a3, a4⟩
    rw [e]
    exact hk J a1 a2 a3 a4
  refine sx_enter (by decide +kernel) (Nat.le_of_ble_eq_true rfl) (sx_go m51 60 rfl (fun VV CC hV hC => ?_))
  refine ⟨rfl, key _ _ ?_ ⟨fun q h1 h2 => ?_, ?_, ?_, ?_⟩⟩
  · simp only [sx_upR_up, sx_upR_same, hR]
    refine congrArg (sx_upR R 64) (funext (fun k => ?_))
    match k with
    | 0 => rfl
    | 1 => rfl
    | 2 => rfl
    | k + 3 => rfl
  · rw [sx_up_ne h2, sx_up_ne h1, sx_up_ne h1]
  · rfl
  · rfl
  · rfl
theorem i_sheet_67 (hR : R 67 = fun _ => none) (hk : ∀ J, (∀ q, q ≠ 67 → q ≠ 68 → J q = I q) → J 67 0 = -1 → J 67 1 = 0 → J 68 = (fun _ => 0) → K none J (sx_upR R 67 (sx_mkR (fun _ _ => none) 67), .inl (71 + 1), ln)) : sx_C 51 (d + 1) [.ref 67] I (R, .inl 71, ln) K := by
  have key : ∀ R' J, R' = sx_upR R 67 (sx_mkR (fun _ _ => none) 67) → ((∀ q, q ≠ 67 → q ≠ 68 → J q = I q) ∧ J 67 0 = -1 ∧ J 67 1 = 0 ∧ J 68 = (fun _ => 0)) → K none J (R', .inl (71 + 1), ln) := by
    intro R' J e ⟨a1, a2, a3, a4⟩
    rw [e]
    exact hk J a1 a2 a3 a4
  refine sx_enter (by decide +kernel) (Nat.le_of_ble_eq_true rfl) (sx_go m51 60 rfl (fun VV CC hV hC => ?_))
  refine ⟨rfl, key _ _ ?_ ⟨fun q h1 h2 => ?_, ?_, ?_, ?_⟩⟩
  · simp only [sx_upR_up, sx_upR_same, hR]
    refine congrArg (sx_upR R 67) (funext (fun k => ?_))
    match k with
    | 0 => rfl
    | 1 => rfl
    | 2 => rfl
    | k + 3 => rfl
  · rw [sx_up_ne h2, sx_up_ne h1, sx_up_ne h1]
  · rfl
  · rfl
  · rfl
theorem i_sheet_70 (hR : R 70 = fun _ => none) (hk : ∀ J, (∀ q, q ≠ 70 → q ≠ 71 → J q = I q) → J 70 0 = -1 → J 70 1 = 0 → J 71 = (fun _ => 0) → K none J (sx_upR R 70 (sx_mkR (fun _ _ => none) 70), .inl (74 + 1), ln)) : sx_C 51 (d + 1) [.ref 70] I (R, .inl 74, ln) K := by
  have key : ∀ R' J, R' = sx_upR R 70 (sx_mkR (fun _ _ => none) 70) → ((∀ q, q ≠ 70 → q ≠ 71 → J q = I q) ∧ J 70 0 = -1 ∧ J 70 1 = 0 ∧ J 71 = (fun _ => 0)) → K none J (R', .inl (74 + 1), ln) := by
    intro R' J e ⟨a1, a2, a3, a4⟩
    rw [e]
    exact hk J a1 a2 a3 a4
  refine sx_enter (by decide +kernel) (Nat.le_of_ble_eq_true rfl) (sx_go m51 60 rfl (fun VV CC hV hC => ?_))
  refine ⟨rfl, key _ _ ?_ ⟨fun q h1 h2 => ?_, ?_, ?_, ?_⟩⟩
  · simp only [sx_upR_up, sx_upR_same, hR]
    refine congrArg (sx_upR R 70) (funext (fun k => ?_))
    match k with
    | 0 => rfl
    | 1 => rfl
    | 2 => rfl
    | k + 3 => rfl
  · rw [sx_up_ne h2, sx_up_ne h1, sx_up_ne h1]
  · rfl
  · rfl
  · rfl
theorem i_sheet_73 (hR : R 73 = fun _ => none) (hk : ∀ J, (∀ q, q ≠ 73 → q ≠ 74 → J q = I q) → J 73 0 = -1 → J 73 1 = 0 → J 74 = (fun _ => 0) → K none J (sx_upR R 73 (sx_mkR (fun _ _ => none) 73), .inl (77 + 1), ln)) : sx_C 51 (d + 1) [.ref 73] I (R, .inl 77, ln) K := by
  have key : ∀ R' J, R' = sx_upR R 73 (sx_mkR (fun _ _ => none) 73) → ((∀ q, q ≠ 73 → q ≠ 74 → J q = I q) ∧ J 73 0 = -1 ∧ J 73 1 = 0 ∧ J 74 = (fun _ => 0)) → K none J (R', .inl (77 + 1), ln) := by
    intro R' J e ⟨a1, a2, a3, a4⟩
    rw [e]
    exact hk J a1 a2 a3 a4
  refine sx_enter (by decide +kernel) (Nat.le_of_ble_eq_true rfl) (sx_go m51 60 rfl (fun VV CC hV hC => ?_))
  refine ⟨rfl, key _ _ ?_ ⟨fun q h1 h2 => ?_, ?_, ?_, ?_⟩⟩
  · simp only [sx_upR_up, sx_upR_same, hR]
    refine congrArg (sx_upR R 73) (funext (fun k => ?_))
    match k with
    | 0 => rfl
    | 1 => rfl
    | 2 => rfl
    | k + 3 => rfl
  · rw [sx_up_ne h2, sx_up_ne h1, sx_up_ne h1]
  · rfl
  · rfl
  · rfl
theorem i_sheet_76 (hR : R 76 = fun _ => none) (hk : ∀ J, (∀ q, q ≠ 76 → q ≠ 77 → J q = I q) → J 76 0 = -1 → J 76 1 = 0 → J 77 = (fun _ => 0) → K none J (sx_upR R 76 (sx_mkR (fun _ _ => none) 76), .inl (80 + 1), ln)) : sx_C 51 (d + 1) [.ref 76] I (R, .inl 80, ln) K := by
  have key : ∀ R' J, R' = sx_upR R 76 (sx_mkR (fun _ _ => none) 76) → ((∀ q, q ≠ 76 → q ≠ 77 → J q = I q) ∧ J 76 0 = -1 ∧ J 76 1 = 0 ∧ J 77 = (fun _ => 0)) → K none J (R', .inl (80 + 1), ln) := by
    intro R' J e ⟨a1, a2, a3, a4⟩
    rw [e]
    exact hk J a1 a2 a3 a4
  refine sx_enter (by decide +kernel) (Nat.le_of_ble_eq_true rfl) (sx_go m51 60 rfl (fun VV CC hV hC => ?_))
  refine ⟨rfl, key _ _ ?_ ⟨fun q h1 h2 => ?_, ?_, ?_, ?_⟩⟩
  · simp only [sx_upR_up, sx_upR_same, hR]
    refine congrArg (sx_upR R 76) (funext (fun k => ?_))
    match k with
    | 0 => rfl
    | 1 => rfl
    | 2 => rfl
    | k + 3 => rfl
  · rw [sx_up_ne h2, sx_up_ne h1, sx_up_ne h1]
  · rfl
  · rfl
  · rfl
theorem i_slot_63 (hR : R 63 = fun _ => none) (h0 : I 63 = fun _ => 0) (hk : ∀ J, (∀ q, (q < 63 ∨ 65 < q) → J q = I q) → J 63 0 = 0 → K none J (sx_upR (sx_upR R 64 (sx_mkR (fun _ _ => none) 64)) 63 (sx_mkR (fun _ _ => none) 63), .inl (68 + 1), ln)) : sx_C 56 (d + 2) [.ref 63] I (R, .inl 67, ln) K := by
  have key : ∀ R' J, R' = sx_upR (sx_upR R 64 (sx_mkR (fun _ _ => none) 64)) 63 (sx_mkR (fun _ _ => none) 63) → ((∀ q, (q < 63 ∨ 65 < q) → J q = I q) ∧ J 63 0 = 0) → K none J (R', .inl (68 + 1), ln) := by
    intro R' J e ⟨a1, a2⟩
    rw [e]
    exact hk J a1 a2
  refine sx_enter (by decide +kernel) (Nat.le_of_ble_eq_true rfl) (sx_go m56 60 rfl (fun VV CC hV hC => ?_))
  refine hC _ _ _ _ _ (i_sheet_64 (d := d) rfl (fun J hJ _ _ _ => key _ _ ?_ ⟨fun q hq => ?_, ?_⟩))
  · simp only [sx_upR_up, sx_upR_ne (show 63 ≠ 64 by decide), sx_upR_same, hR]
    refine congrArg (sx_upR _ 63) (funext (fun k => ?_))
    match k with
    | 0 => rfl
    | 1 => rfl
    | 2 => rfl
    | 3 => rfl
    | 4 => rfl
    | k + 5 => rfl
  · rw [hJ q (by omega) (by omega), sx_up_ne (by omega), sx_up_ne (by omega), sx_up_ne (by omega), sx_up_ne (by omega), sx_up_ne (by omega)]
  · rw [hJ 63 (by decide) (by decide)]; rfl
theorem i_slot_66 (hR : R 66 = fun _ => none) (h0 : I 66 = fun _ => 0) (hk : ∀ J, (∀ q, (q < 66 ∨ 68 < q) → J q = I q) → J 66 0 = 0 → K none J (sx_upR (sx_upR R 67 (sx_mkR (fun _ _ => none) 67)) 66 (sx_mkR (fun _ _ => none) 66), .inl (71 + 1), ln)) : sx_C 56 (d + 2) [.ref 66] I (R, .inl 70, ln) K := by
  have key : ∀ R' J, R' = sx_upR (sx_upR R 67 (sx_mkR (fun _ _ => none) 67)) 66 (sx_mkR (fun _ _ => none) 66) → ((∀ q, (q < 66 ∨ 68 < q) → J q = I q) ∧ J 66 0 = 0) → K none J (R', .inl (71 + 1), ln) := by
    intro R' J e ⟨a1, a2⟩
    rw [e]
    exact hk J a1 a2
  refine sx_enter (by decide +kernel) (Nat.le_of_ble_eq_true rfl) (sx_go m56 60 rfl (fun VV CC hV hC => ?_))
  refine hC _ _ _ _ _ (i_sheet_67 (d := d) rfl (fun J hJ _ _ _ => key _ _ ?_ ⟨fun q hq => ?_, ?_⟩))
  · simp only [sx_upR_up, sx_upR_ne (show 66 ≠ 67 by decide), sx_upR_same, hR]
    refine congrArg (sx_upR _ 66) (funext (fun k => ?_))
    match k with
    | 0 => rfl
    | 1 => rfl
    | 2 => rfl
    | 3 => rfl
    | 4 => rfl
    | k + 5 => rfl
  · rw [hJ q (by omega) (by omega), sx_up_ne (by omega), sx_up_ne (by omega), sx_up_ne (by omega), sx_up_ne (by omega), sx_up_ne (by omega)]
  · rw [hJ 66 (by decide) (by decide)]; rfl
theorem i_slot_69 (hR : R 69 = fun _ => none) (h0 : I 69 = fun _ => 0) (hk : ∀ J, (∀ q, (q < 69 ∨ 71 < q) → J q = I q) → J 69 0 = 0 → K none J (sx_upR (sx_upR R 70 (sx_mkR (fun _ _ => none) 70)) 69 (sx_mkR (fun _ _ => none) 69), .inl (74 + 1), ln)) : sx_C 56 (d + 2) [.ref 69] I (R, .inl 73, ln) K := by
  have key : ∀ R' J, R' = sx_upR (sx_upR R 70 (sx_mkR (fun _ _ => none) 70)) 69 (sx_mkR (fun _ _ => none) 69) → ((∀ q, (q < 69 ∨ 71 < q) → J q = I q) ∧ J 69 0 = 0) → K none J (R', .inl (74 + 1), ln) := by
    intro R' J e ⟨a1, a2⟩
    rw [e]
    exact hk J a1 a2
  refine sx_enter (by decide +kernel) (Nat.le_of_ble_eq_true rfl) (sx_go m56 60 rfl (fun VV CC hV hC => ?_))
  refine hC _ _ _ _ _ (i_sheet_70 (d := d) rfl (fun J hJ _ _ _ => key _ _ ?_ ⟨fun q hq => ?_, ?_⟩))
  · simp only [sx_upR_up, sx_upR_ne (show 69 ≠ 70 by decide), sx_upR_same, hR]
    refine congrArg (sx_upR _ 69) (funext (fun k => ?_))
    match k with
    | 0 => rfl
    | 1 => rfl
    | 2 => rfl
    | 3 => rfl
    | 4 => rfl
    | k + 5 => rfl
  · rw [hJ q (by omega) (by omega), sx_up_ne (by omega), sx_up_ne (by omega), sx_up_ne (by omega), sx_up_ne (by omega), sx_up_ne (by omega)]
  · rw [hJ 69 (by decide) (by decide)]; rfl
theorem i_slot_72 (hR : R 72 = fun _ => none) (h0 : I 72 = fun _ => 0) (hk : ∀ J, (∀ q, (q < 72 ∨ 74 < q) → J q = I q) → J 72 0 = 0 → K none J (sx_upR (sx_upR R 73 (sx_mkR (fun _ _ => none) 73)) 72 (sx_mkR (fun _ _ => none) 72), .inl (77 + 1), ln)) : sx_C 56 (d + 2) [.ref 72] I (R, .inl 76, ln) K := by
  have key : ∀ R' J, R' = sx_upR (sx_upR R 73 (sx_mkR (fun _ _ => none) 73)) 72 (sx_mkR (fun _ _ => none) 72) → ((∀ q, (q < 72 ∨ 74 < q) → J q = I q) ∧ J 72 0 = 0) → K none J (R', .inl (77 + 1), ln) := by
    intro R' J e ⟨a1, a2⟩
    rw [e]
    exact hk J a1 a2
  refine sx_enter (by decide +kernel) (Nat.le_of_ble_eq_true rfl) (sx_go m56 60 rfl (fun VV CC hV hC => ?_))
  refine hC _ _ _ _ _ (i_sheet_73 (d := d) rfl (fun J hJ _ _ _ => key _ _ ?_ ⟨fun q hq => ?_, ?_⟩))
  · simp only [sx_upR_up, sx_upR_ne (show 72 ≠ 73 by decide), sx_upR_same, hR]
    refine congrArg (sx_upR _ 72) (funext (fun k => ?_))
    match k with
    | 0 => rfl
    | 1 => rfl
    | 2 => rfl
    | 3 => rfl
    | 4 => rfl
    | k + 5 => rfl
  · rw [hJ q (by omega) (by omega), sx_up_ne (by omega), sx_up_ne (by omega), sx_up_ne (by omega), sx_up_ne (by omega), sx_up_ne (by omega)]
  · rw [hJ 72 (by decide) (by decide)]; rfl
theorem i_slot_75 (hR : R 75 = fun _ => none) (h0 : I 75 = fun _ => 0) (hk : ∀ J, (∀ q, (q < 75 ∨ 77 < q) → J q = I q) → J 75 0 = 0 → K none J (sx_upR (sx_upR R 76 (sx_mkR (fun _ _ => none) 76)) 75 (sx_mkR (fun _ _ => none) 75), .inl (80 + 1), ln)) : sx_C 56 (d + 2) [.ref 75] I (R, .inl 79, ln) K := by
  have key : ∀ R' J, R' = sx_upR (sx_upR R 76 (sx_mkR (fun _ _ => none) 76)) 75 (sx_mkR (fun _ _ => none) 75) → ((∀ q, (q < 75 ∨ 77 < q) → J q = I q) ∧ J 75 0 = 0) → K none J (R', .inl (80 + 1), ln) := by
    intro R' J e ⟨a1, a2⟩
    rw [e]
    exact hk J a1 a2
  refine sx_enter (by decide +kernel) (Nat.le_of_ble_eq_true rfl) (sx_go m56 60 rfl (fun VV CC hV hC => ?_))
  refine hC _ _ _ _ _ (i_sheet_76 (d := d) rfl (fun J hJ _ _ _ => key _ _ ?_ ⟨fun q hq => ?_, ?_⟩))
  · simp only [sx_upR_up, sx_upR_ne (show 75 ≠ 76 by decide), sx_upR_same, hR]
    refine congrArg (sx_upR _ 75) (funext (fun k => ?_))
    match k with
    | 0 => rfl
    | 1 => rfl
    | 2 => rfl
    | 3 => rfl
    | 4 => rfl
    | k + 5 => rfl
  · rw [hJ q (by omega) (by omega), sx_up_ne (by omega), sx_up_ne (by omega), sx_up_ne (by omega), sx_up_ne (by omega), sx_up_ne (by omega)]
  · rw [hJ 75 (by decide) (by decide)]; rfl
end
