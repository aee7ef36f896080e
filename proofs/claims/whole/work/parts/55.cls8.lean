/-! ===== the class: one border becomes as another; guards come; nights in thought ===== -/
theorem gs_comes_alt (s : Nat → Int32) (n : Nat) (a b c : Int32) : upd (gs_set (gs_set (gs_set (gs_set (gs_set s n 0 a) n 1 b) n 2 c) n 3 (nI 0)) n 4 (nI 1)) 0 (nI (n + 1)) = gs_comes s n a b c := by
  unfold gs_comes gs_set
  funext i
  by_cases e : i = 0
  · subst e
    rw [pk_us, pk_un (by omega), pk_un (by omega), pk_un (by omega), pk_un (by omega), pk_un (by omega), pk_us]
  · rw [pk_un e]
    unfold upd
    simp only [if_neg e]
theorem gs_on_none {s : Nat → Int32} {n : Nat} {p : Int32} (hn : n ≤ 10) : gs_on (gs_whoV s n p) = -1000000005 ↔ ¬ gs_who s n p < n := by
  unfold gs_whoV
  by_cases h : gs_who s n p < n
  · rw [if_pos h, gs_on_t (by omega)]
    refine ⟨fun q => ?_, fun q => absurd h q⟩
    have := nI_pos (n := gs_who s n p) (by omega)
    rw [q] at this
    exact absurd (by decide +kernel) this
  · rw [if_neg h]; exact ⟨fun _ => h, fun _ => gs_on_m⟩
theorem gs_on_some {s : Nat → Int32} {n : Nat} {p : Int32} (hn : n ≤ 10) (h : gs_who s n p < n) : gs_on (gs_whoV s n p) = nI (gs_who s n p) := by
  unfold gs_whoV
  rw [if_pos h, gs_on_t (by omega)]
theorem va_cpy0 {f g : Nat → Int32} {n k : Nat} (h : k < n) : va_cpy f g 0 0 n k = f k := by
  rw [pk_cpy_in (by omega) (by omega)]; congr 1; omega
theorem sx_abs {P : sx_I → Prop} (Q : sx_I → Prop) {J : sx_I} (hQ : Q J) (h : ∀ J, Q J → P J) : P J := h J hQ
def gb_len (w : Nat) : Nat := if w < 5 then 10 else if w = 5 then 4 else 3
/-- half way from a border to another: some fields, the first j rows -/
def gb_bc (D S : Nat) (I : sx_I) (F : Nat → Prop) (j : Nat) (J : sx_I) : Prop := (∀ a, a ≠ D → (a ≤ D ∨ D + j < a) → J a = I a) ∧ (∀ w, w < j → ∀ k, k < gb_len w → J (D + 1 + w) k = I (S + 1 + w) k) ∧ (∀ f, F f → J D f = I S f)
theorem gb_bc.rf (D S : Nat) (I : sx_I) : gb_bc D S I (fun _ => False) 0 I := ⟨fun _ _ _ => rfl, fun w hw => absurd hw (Nat.not_lt_zero w), fun _ h => absurd h (fun q => q)⟩
theorem gb_bc.fld {D S j : Nat} {I J : sx_I} {F : Nat → Prop} (hd : D + 8 < S ∨ S + 8 < D) (hj : j ≤ 8) (f : Nat) (h : gb_bc D S I F j J) : gb_bc D S I (fun x => x = f ∨ F x) j (sx_up J D (upd (J D) f (J S f))) := by
  obtain ⟨h1, h2, h3⟩ := h
  refine ⟨fun a h4 h5 => by rw [sx_up_ne h4]; exact h1 a h4 h5, fun w hw k hk => by rw [sx_up_ne (by omega)]; exact h2 w hw k hk, fun x hx => ?_⟩
  rw [sx_up_same]
  by_cases e : x = f
  · subst e; rw [pk_us, h1 S (by omega) (by omega)]
  · rw [pk_un e]; exact h3 x (hx.resolve_left e)
theorem gb_bc.arr {D S j n : Nat} {I J : sx_I} {F : Nat → Prop} (hd : D + 8 < S ∨ S + 8 < D) (hj : j < 8) (hn : gb_len j = n) (h : gb_bc D S I F j J) : gb_bc D S I F (j + 1) (sx_up J (D + 1 + j) (va_cpy (J (S + 1 + j)) (J (D + 1 + j)) 0 0 n)) := by
  obtain ⟨h1, h2, h3⟩ := h
  refine ⟨fun a h4 h5 => by rw [sx_up_ne (by omega)]; exact h1 a h4 (by omega), fun w hw k hk => ?_, fun x hx => by rw [sx_up_ne (by omega)]; exact h3 x hx⟩
  by_cases e : w = j
  · subst e
    rw [sx_up_same, va_cpy0 (by omega), h1 _ (by omega) (by omega)]
  · rw [sx_up_ne (by omega)]; exact h2 w (by omega) k hk
theorem gb_bc.fin {D S : Nat} {s : Nat → Int32} {I J J2 : sx_I} (hd : (D + 8 < S ∨ S + 8 < D) ∧ 18 < D ∧ 18 < S ∧ D < 92 ∧ S < 92) (hb : gb S s I) (h : gb_bc D S I (fun x => x = 10 ∨ x = 9 ∨ x = 1 ∨ False) 7 J) (h1 : ∀ a, a ≠ D + 100 → a ≠ D + 8 → J2 a = J a) (h2 : J2 (D + 100) 1 = J (S + 100) 1) (h3 : ∀ w, w < 3 → J2 (D + 8) w = J (S + 8) w) : gb_fr D I J2 ∧ gb D s J2 := by
  obtain ⟨⟨g1, g2, g3, g4⟩, g5, g6, g7, g8⟩ := hb
  obtain ⟨q1, q2, q3⟩ := h
  have eD : J2 D = J D := h1 D (by omega) (by omega)
  refine ⟨fun a _ h4 => (h1 a (by omega) (by omega)).trans (q1 a (by omega) (by omega)), ⟨?_, ?_, ?_, ?_⟩, fun w hw k hk => ?_, fun w hw => ?_, fun w hw => ?_, fun w hw => ?_⟩
  · rw [eD]; exact (q3 1 (by omega)).trans g1
  · rw [eD]; exact (q3 9 (by omega)).trans g2
  · rw [eD]; exact (q3 10 (by omega)).trans g3
  · rw [h2, q1 (S + 100) (by omega) (by omega)]; exact g4
  · rw [h1 _ (by omega) (by omega)]
    exact (q2 w (by omega) k (by unfold gb_len; rw [if_pos hw]; exact hk)).trans (g5 w hw k hk)
  · rw [h1 _ (by omega) (by omega)]
    exact (q2 5 (by omega) w (by unfold gb_len; rw [if_neg (by omega), if_pos rfl]; exact hw)).trans (g6 w hw)
  · rw [h1 _ (by omega) (by omega)]
    exact (q2 6 (by omega) w (by unfold gb_len; rw [if_neg (by omega), if_neg (by omega)]; exact hw)).trans (g7 w hw)
  · rw [h3 w hw, q1 (S + 8) (by omega) (by omega)]; exact g8 w hw
/-- the rows of one book become those of another, up to k -/
def gb_cp (rw : Nat → Nat → Option Nat) (D S k : Nat) : Nat → Nat → Option Nat := fun c i => if c = D ∧ i < k then rw S i else rw c i
theorem gb_cp0 {rw : Nat → Nat → Option Nat} {D S : Nat} : gb_cp rw D S 0 = rw := funext fun _ => funext fun _ => if_neg (by omega)
theorem gb_cp_ne {rw : Nat → Nat → Option Nat} {D S k c : Nat} (h : c ≠ D) : gb_cp rw D S k c = rw c := funext fun _ => if_neg (fun z => h z.1)
theorem gb_cp_at {rw : Nat → Nat → Option Nat} {D S i : Nat} (h : i < 14) : gb_cp rw D S 14 D i = rw S i := if_pos ⟨rfl, h⟩
theorem gb_cp_st {rw : Nat → Nat → Option Nat} {D S k i : Nat} : gb_cp rw D S (k + 1) D i = if i = k then rw S k else gb_cp rw D S k D i := by
  unfold gb_cp
  by_cases h : i = k
  · subst h
    rw [if_pos rfl, if_pos ⟨rfl, by omega⟩]
  · rw [if_neg h]
    by_cases h2 : i < k
    · rw [if_pos ⟨rfl, by omega⟩, if_pos ⟨rfl, h2⟩]
    · rw [if_neg (fun z => absurd z.2 (by omega)), if_neg (fun z => h2 z.2)]
/-- nothing of another border's rows has changed -/
def gb_rw (b : Nat) (rw rw' : Nat → Nat → Option Nat) : Prop := ∀ c, c ≠ b → rw' c = rw c
theorem gb_rw.rf (b : Nat) (rw : Nat → Nat → Option Nat) : gb_rw b rw rw := fun _ _ => rfl
theorem gb_rw.tr {b : Nat} {rw rw' rw2 : Nat → Nat → Option Nat} (h : gb_rw b rw rw') (h2 : gb_rw b rw' rw2) : gb_rw b rw rw2 := fun c hc => (h2 c hc).trans (h c hc)
theorem gb_rw.cp (D S : Nat) (rw : Nat → Nat → Option Nat) : gb_rw D rw (gb_cp rw D S 14) := fun _ h => gb_cp_ne h
theorem gb_tx.cp {I : sx_I} {rw : Nat → Nat → Option Nat} {m : Nat} {ln : Nat → Nat} {s : Nat → Int32} {S : Nat} (D : Nat) (h : gb_tx I (rw S) m ln s) : gb_tx I (gb_cp rw D S 14 D) m ln s := h.row (fun _ ht => gb_cp_at ht)
theorem sx_mk_up_19 {rw rw' : Nat → Nat → Option Nat} {k : Nat} {b : Option Nat} (h1 : ∀ c, c ≠ 19 → rw' c = rw c) (h2 : ∀ i, rw' 19 i = if i = k then b else rw 19 i) : sx_upR (sx_mkR rw) 120 (fun i => if i = k then b else sx_mkR rw 120 i) = sx_mkR rw' := by
  funext a i
  by_cases ha : a = 120
  · subst ha
    show sx_upR _ 120 _ 120 i = rw' 19 i
    unfold sx_upR
    rw [if_pos rfl, h2]
    rfl
  · show sx_upR _ 120 _ a i = _
    rw [sx_upR_ne ha]
    unfold sx_mkR
    cases Nat.ble a 199 with
    | false => rfl
    | true =>
      simp only [cond_true]
      by_cases z1 : a = 120
      · first
        | exact absurd z1 ha
        | (subst z1; exact (congrFun (h1 19 (by decide)) i).symm)
      · by_cases z2 : a = 129
        · first
          | exact absurd z2 ha
          | (subst z2; exact (congrFun (h1 28 (by decide)) i).symm)
        · by_cases z3 : a = 138
          · first
            | exact absurd z3 ha
            | (subst z3; exact (congrFun (h1 37 (by decide)) i).symm)
          · rw [sx_bf.mpr z1, sx_bf.mpr z2, sx_bf.mpr z3]
            rfl
theorem sx_mk_up_28 {rw rw' : Nat → Nat → Option Nat} {k : Nat} {b : Option Nat} (h1 : ∀ c, c ≠ 28 → rw' c = rw c) (h2 : ∀ i, rw' 28 i = if i = k then b else rw 28 i) : sx_upR (sx_mkR rw) 129 (fun i => if i = k then b else sx_mkR rw 129 i) = sx_mkR rw' := by
  funext a i
  by_cases ha : a = 129
  · subst ha
    show sx_upR _ 129 _ 129 i = rw' 28 i
    unfold sx_upR
    rw [if_pos rfl, h2]
    rfl
  · show sx_upR _ 129 _ a i = _
    rw [sx_upR_ne ha]
    unfold sx_mkR
    cases Nat.ble a 199 with
    | false => rfl
    | true =>
      simp only [cond_true]
      by_cases z1 : a = 120
      · first
        | exact absurd z1 ha
        | (subst z1; exact (congrFun (h1 19 (by decide)) i).symm)
      · by_cases z2 : a = 129
        · first
          | exact absurd z2 ha
          | (subst z2; exact (congrFun (h1 28 (by decide)) i).symm)
        · by_cases z3 : a = 138
          · first
            | exact absurd z3 ha
            | (subst z3; exact (congrFun (h1 37 (by decide)) i).symm)
          · rw [sx_bf.mpr z1, sx_bf.mpr z2, sx_bf.mpr z3]
            rfl
theorem sx_mk_up_37 {rw rw' : Nat → Nat → Option Nat} {k : Nat} {b : Option Nat} (h1 : ∀ c, c ≠ 37 → rw' c = rw c) (h2 : ∀ i, rw' 37 i = if i = k then b else rw 37 i) : sx_upR (sx_mkR rw) 138 (fun i => if i = k then b else sx_mkR rw 138 i) = sx_mkR rw' := by
  funext a i
  by_cases ha : a = 138
  · subst ha
    show sx_upR _ 138 _ 138 i = rw' 37 i
    unfold sx_upR
    rw [if_pos rfl, h2]
    rfl
  · show sx_upR _ 138 _ a i = _
    rw [sx_upR_ne ha]
    unfold sx_mkR
    cases Nat.ble a 199 with
    | false => rfl
    | true =>
      simp only [cond_true]
      by_cases z1 : a = 120
      · first
        | exact absurd z1 ha
        | (subst z1; exact (congrFun (h1 19 (by decide)) i).symm)
      · by_cases z2 : a = 129
        · first
          | exact absurd z2 ha
          | (subst z2; exact (congrFun (h1 28 (by decide)) i).symm)
        · by_cases z3 : a = 138
          · first
            | exact absurd z3 ha
            | (subst z3; exact (congrFun (h1 37 (by decide)) i).symm)
          · rw [sx_bf.mpr z1, sx_bf.mpr z2, sx_bf.mpr z3]
            rfl
section
variable {d m : Nat} {I : sx_I} {rw : Nat → Nat → Option Nat} {ln : Nat → Nat} {K : sx_K} {s : Nat → Int32}
theorem gb_five {P : Nat → Prop} (h0 : P 0) (h1 : P 1) (h2 : P 2) (h3 : P 3) (h4 : P 4) : ∀ w, w < 5 → P w := by
  intro w hw
  have : w = 0 ∨ w = 1 ∨ w = 2 ∨ w = 3 ∨ w = 4 := by omega
  rcases this with rfl | rfl | rfl | rfl | rfl
  · exact h0
  · exact h1
  · exact h2
  · exact h3
  · exact h4
theorem v_bcopy_28_19 (hro : gb_ro (rw 19) m) (hk : ∀ J, (∀ a, a ≠ 36 → J a = I a) → (∀ w, w < 3 → J 36 w = I 27 w) → K none J (sx_run (gb_cp rw 28 19 14) m ln)) :
    ∀ (r k : Nat), k + r = 14 → sx_V 1 (d + 1) 0 0 K 10 [(0, .ref 128), (1, .ref 119), (2, .int (nI k))] [] I (sx_run (gb_cp rw 28 19 k) m ln)
  | 0, k, hk2 => by
    have : k = 14 := by omega
    subst this
    refine sx_go m1 60 rfl (fun VV CC hV hC => ?_)
    refine ⟨fun _ => ⟨3, 0, 0, ⟨rfl, rfl, rfl, by omega, by omega⟩, Nat.le_of_ble_eq_true rfl, hk _ (fun a h => sx_up_ne h) (fun w hw => ?_)⟩, fun (c : ¬ nI 14 ≤ nI 14) => absurd (Int32.le_refl _) c⟩
    rw [sx_up_same]; exact va_cpy0 hw
  | r + 1, k, hk2 => by
    have ih := v_bcopy_28_19 hro hk r (k + 1) (by omega)
    rw [nI_succ k] at ih
    have fin : ∀ (b : Option Nat), rw 19 k = b → sx_V 1 (d + 1) 0 0 K 10 [(0, .ref 128), (1, .ref 119), (2, .int (nI k + nI 1))] [] I ((sx_upR (sx_mkR (gb_cp rw 28 19 k)) 129 (fun i => if i = k then b else sx_mkR (gb_cp rw 28 19 k) 129 i), .inr m, ln) : sx_G) := by
      intro b e
      rw [sx_mk_up_28 (rw' := gb_cp rw 28 19 (k + 1)) (fun c hc => (gb_cp_ne hc).trans (gb_cp_ne hc).symm) (fun i => by rw [gb_cp_st, e])]
      exact ih
    refine sx_go m1 60 rfl (fun VV CC hV hC => ?_)
    refine ⟨fun (c : nI 14 ≤ nI k) => absurd c (nI_ge (by omega) (by omega)), fun _ => ⟨k, ⟨rfl, by omega⟩, fun b (e : gb_cp rw 28 19 k 19 k = some b) => ?_, fun (e : gb_cp rw 28 19 k 19 k = none) => ?_⟩⟩
    · rw [gb_cp_ne (by decide)] at e
      obtain ⟨v, rfl, hv⟩ := hro k b (by omega) e
      refine sx_w_aast (cs := x1_28) (N := 14) rfl rfl (sx_al_t (by omega)) (sx_sh_t v) rfl (by omega) ?_
      exact hV _ _ _ _ _ _ _ (fin _ e)
    · rw [gb_cp_ne (by decide)] at e
      refine sx_w_aastN (cs := x1_28) (N := 14) rfl rfl rfl (by omega) ?_
      exact hV _ _ _ _ _ _ _ (fin _ e)
theorem c_bcopy_28_19 (hro : gb_ro (rw 19) m) (hk : ∀ J, (∀ a, a ≠ 128 → a ≠ 36 → J a = I a) → J 128 1 = I 119 1 → (∀ w, w < 3 → J 36 w = I 27 w) → K none J (sx_run (gb_cp rw 28 19 14) m ln)) : sx_C 1 (d + 1) [.ref 128, .ref 119] I (sx_run rw m ln) K := by
  refine sx_enter (by decide +kernel) (Nat.le_of_ble_eq_true rfl) (sx_go m1 60 rfl (fun VV CC hV hC => hV _ _ _ _ _ _ _ ?_))
  have := v_bcopy_28_19 (d := d) (K := K) (ln := ln) (I := sx_up I 128 (upd (I 128) 1 (I 119 1))) hro (fun J h1 h2 => hk J (fun a ha hb => (h1 a hb).trans (sx_up_ne ha)) (by rw [h1 128 (by decide), sx_up_same, pk_us]) (fun w hw => by rw [h2 w hw, sx_up_ne (by decide)])) 14 0 (by omega)
  rw [gb_cp0] at this
  exact this
theorem c_become_28_19 (hb : gb 19 s I) (hro : gb_ro (rw 19) m) (hk : ∀ I', gb_fr 28 I I' → gb 28 s I' → K none I' (sx_run (gb_cp rw 28 19 14) m ln)) : sx_C 6 (d + 2) [.ref 28, .ref 19] I (sx_run rw m ln) K := by
  have hDS : 28 + 8 < 19 ∨ 19 + 8 < 28 := by omega
  refine sx_enter (by decide +kernel) (Nat.le_of_ble_eq_true rfl) (sx_go m6 100 rfl (fun VV CC hV hC => ?_))
  refine ⟨10, 0, 0, ⟨rfl, rfl, rfl, by omega, by omega⟩, Nat.le_of_ble_eq_true rfl, ?_⟩
  refine sx_abs (P := fun J => sx_symG VV CC K _ _ _ _ _ _ _ J _) (gb_bc 28 19 I (fun x => x = 1 ∨ False) 1) (gb_bc.arr (j := 0) hDS (by omega) rfl (gb_bc.fld hDS (by omega) 1 (gb_bc.rf 28 19 I))) (fun J1 q1 => ?_)
  refine ⟨10, 0, 0, ⟨rfl, rfl, rfl, by omega, by omega⟩, Nat.le_of_ble_eq_true rfl, ?_⟩
  refine sx_abs (P := fun J => sx_symG VV CC K _ _ _ _ _ _ _ J _) (gb_bc 28 19 I (fun x => x = 1 ∨ False) 2) (gb_bc.arr (j := 1) hDS (by omega) rfl q1) (fun J2 q2 => ?_)
  refine ⟨10, 0, 0, ⟨rfl, rfl, rfl, by omega, by omega⟩, Nat.le_of_ble_eq_true rfl, ?_⟩
  refine sx_abs (P := fun J => sx_symG VV CC K _ _ _ _ _ _ _ J _) (gb_bc 28 19 I (fun x => x = 1 ∨ False) 3) (gb_bc.arr (j := 2) hDS (by omega) rfl q2) (fun J3 q3 => ?_)
  refine ⟨10, 0, 0, ⟨rfl, rfl, rfl, by omega, by omega⟩, Nat.le_of_ble_eq_true rfl, ?_⟩
  refine sx_abs (P := fun J => sx_symG VV CC K _ _ _ _ _ _ _ J _) (gb_bc 28 19 I (fun x => x = 1 ∨ False) 4) (gb_bc.arr (j := 3) hDS (by omega) rfl q3) (fun J4 q4 => ?_)
  refine ⟨10, 0, 0, ⟨rfl, rfl, rfl, by omega, by omega⟩, Nat.le_of_ble_eq_true rfl, ?_⟩
  refine sx_abs (P := fun J => sx_symG VV CC K _ _ _ _ _ _ _ J _) (gb_bc 28 19 I (fun x => x = 1 ∨ False) 5) (gb_bc.arr (j := 4) hDS (by omega) rfl q4) (fun J5 q5 => ?_)
  refine ⟨4, 0, 0, ⟨rfl, rfl, rfl, by omega, by omega⟩, Nat.le_of_ble_eq_true rfl, ?_⟩
  refine sx_abs (P := fun J => sx_symG VV CC K _ _ _ _ _ _ _ J _) (gb_bc 28 19 I (fun x => x = 1 ∨ False) 6) (gb_bc.arr (j := 5) hDS (by omega) rfl q5) (fun J6 q6 => ?_)
  refine ⟨3, 0, 0, ⟨rfl, rfl, rfl, by omega, by omega⟩, Nat.le_of_ble_eq_true rfl, ?_⟩
  have q8 := gb_bc.fld hDS (by omega) 10 (gb_bc.fld hDS (by omega) 9 (gb_bc.arr (j := 6) hDS (by omega) rfl q6))
  refine hC _ _ _ _ _ (c_bcopy_28_19 hro (fun J h1 h2 h3 => ?_))
  obtain ⟨f, g⟩ := gb_bc.fin (by omega) hb q8 h1 h2 h3
  exact hk J f g
theorem v_bcopy_37_19 (hro : gb_ro (rw 19) m) (hk : ∀ J, (∀ a, a ≠ 45 → J a = I a) → (∀ w, w < 3 → J 45 w = I 27 w) → K none J (sx_run (gb_cp rw 37 19 14) m ln)) :
    ∀ (r k : Nat), k + r = 14 → sx_V 1 (d + 1) 0 0 K 10 [(0, .ref 137), (1, .ref 119), (2, .int (nI k))] [] I (sx_run (gb_cp rw 37 19 k) m ln)
  | 0, k, hk2 => by
    have : k = 14 := by omega
    subst this
    refine sx_go m1 60 rfl (fun VV CC hV hC => ?_)
    refine ⟨fun _ => ⟨3, 0, 0, ⟨rfl, rfl, rfl, by omega, by omega⟩, Nat.le_of_ble_eq_true rfl, hk _ (fun a h => sx_up_ne h) (fun w hw => ?_)⟩, fun (c : ¬ nI 14 ≤ nI 14) => absurd (Int32.le_refl _) c⟩
    rw [sx_up_same]; exact va_cpy0 hw
  | r + 1, k, hk2 => by
    have ih := v_bcopy_37_19 hro hk r (k + 1) (by omega)
    rw [nI_succ k] at ih
    have fin : ∀ (b : Option Nat), rw 19 k = b → sx_V 1 (d + 1) 0 0 K 10 [(0, .ref 137), (1, .ref 119), (2, .int (nI k + nI 1))] [] I ((sx_upR (sx_mkR (gb_cp rw 37 19 k)) 138 (fun i => if i = k then b else sx_mkR (gb_cp rw 37 19 k) 138 i), .inr m, ln) : sx_G) := by
      intro b e
      rw [sx_mk_up_37 (rw' := gb_cp rw 37 19 (k + 1)) (fun c hc => (gb_cp_ne hc).trans (gb_cp_ne hc).symm) (fun i => by rw [gb_cp_st, e])]
      exact ih
    refine sx_go m1 60 rfl (fun VV CC hV hC => ?_)
    refine ⟨fun (c : nI 14 ≤ nI k) => absurd c (nI_ge (by omega) (by omega)), fun _ => ⟨k, ⟨rfl, by omega⟩, fun b (e : gb_cp rw 37 19 k 19 k = some b) => ?_, fun (e : gb_cp rw 37 19 k 19 k = none) => ?_⟩⟩
    · rw [gb_cp_ne (by decide)] at e
      obtain ⟨v, rfl, hv⟩ := hro k b (by omega) e
      refine sx_w_aast (cs := x1_28) (N := 14) rfl rfl (sx_al_t (by omega)) (sx_sh_t v) rfl (by omega) ?_
      exact hV _ _ _ _ _ _ _ (fin _ e)
    · rw [gb_cp_ne (by decide)] at e
      refine sx_w_aastN (cs := x1_28) (N := 14) rfl rfl rfl (by omega) ?_
      exact hV _ _ _ _ _ _ _ (fin _ e)
theorem c_bcopy_37_19 (hro : gb_ro (rw 19) m) (hk : ∀ J, (∀ a, a ≠ 137 → a ≠ 45 → J a = I a) → J 137 1 = I 119 1 → (∀ w, w < 3 → J 45 w = I 27 w) → K none J (sx_run (gb_cp rw 37 19 14) m ln)) : sx_C 1 (d + 1) [.ref 137, .ref 119] I (sx_run rw m ln) K := by
  refine sx_enter (by decide +kernel) (Nat.le_of_ble_eq_true rfl) (sx_go m1 60 rfl (fun VV CC hV hC => hV _ _ _ _ _ _ _ ?_))
  have := v_bcopy_37_19 (d := d) (K := K) (ln := ln) (I := sx_up I 137 (upd (I 137) 1 (I 119 1))) hro (fun J h1 h2 => hk J (fun a ha hb => (h1 a hb).trans (sx_up_ne ha)) (by rw [h1 137 (by decide), sx_up_same, pk_us]) (fun w hw => by rw [h2 w hw, sx_up_ne (by decide)])) 14 0 (by omega)
  rw [gb_cp0] at this
  exact this
theorem c_become_37_19 (hb : gb 19 s I) (hro : gb_ro (rw 19) m) (hk : ∀ I', gb_fr 37 I I' → gb 37 s I' → K none I' (sx_run (gb_cp rw 37 19 14) m ln)) : sx_C 6 (d + 2) [.ref 37, .ref 19] I (sx_run rw m ln) K := by
  have hDS : 37 + 8 < 19 ∨ 19 + 8 < 37 := by omega
  refine sx_enter (by decide +kernel) (Nat.le_of_ble_eq_true rfl) (sx_go m6 100 rfl (fun VV CC hV hC => ?_))
  refine ⟨10, 0, 0, ⟨rfl, rfl, rfl, by omega, by omega⟩, Nat.le_of_ble_eq_true rfl, ?_⟩
  refine sx_abs (P := fun J => sx_symG VV CC K _ _ _ _ _ _ _ J _) (gb_bc 37 19 I (fun x => x = 1 ∨ False) 1) (gb_bc.arr (j := 0) hDS (by omega) rfl (gb_bc.fld hDS (by omega) 1 (gb_bc.rf 37 19 I))) (fun J1 q1 => ?_)
  refine ⟨10, 0, 0, ⟨rfl, rfl, rfl, by omega, by omega⟩, Nat.le_of_ble_eq_true rfl, ?_⟩
  refine sx_abs (P := fun J => sx_symG VV CC K _ _ _ _ _ _ _ J _) (gb_bc 37 19 I (fun x => x = 1 ∨ False) 2) (gb_bc.arr (j := 1) hDS (by omega) rfl q1) (fun J2 q2 => ?_)
  refine ⟨10, 0, 0, ⟨rfl, rfl, rfl, by omega, by omega⟩, Nat.le_of_ble_eq_true rfl, ?_⟩
  refine sx_abs (P := fun J => sx_symG VV CC K _ _ _ _ _ _ _ J _) (gb_bc 37 19 I (fun x => x = 1 ∨ False) 3) (gb_bc.arr (j := 2) hDS (by omega) rfl q2) (fun J3 q3 => ?_)
  refine ⟨10, 0, 0, ⟨rfl, rfl, rfl, by omega, by omega⟩, Nat.le_of_ble_eq_true rfl, ?_⟩
  refine sx_abs (P := fun J => sx_symG VV CC K _ _ _ _ _ _ _ J _) (gb_bc 37 19 I (fun x => x = 1 ∨ False) 4) (gb_bc.arr (j := 3) hDS (by omega) rfl q3) (fun J4 q4 => ?_)
  refine ⟨10, 0, 0, ⟨rfl, rfl, rfl, by omega, by omega⟩, Nat.le_of_ble_eq_true rfl, ?_⟩
  refine sx_abs (P := fun J => sx_symG VV CC K _ _ _ _ _ _ _ J _) (gb_bc 37 19 I (fun x => x = 1 ∨ False) 5) (gb_bc.arr (j := 4) hDS (by omega) rfl q4) (fun J5 q5 => ?_)
  refine ⟨4, 0, 0, ⟨rfl, rfl, rfl, by omega, by omega⟩, Nat.le_of_ble_eq_true rfl, ?_⟩
  refine sx_abs (P := fun J => sx_symG VV CC K _ _ _ _ _ _ _ J _) (gb_bc 37 19 I (fun x => x = 1 ∨ False) 6) (gb_bc.arr (j := 5) hDS (by omega) rfl q5) (fun J6 q6 => ?_)
  refine ⟨3, 0, 0, ⟨rfl, rfl, rfl, by omega, by omega⟩, Nat.le_of_ble_eq_true rfl, ?_⟩
  have q8 := gb_bc.fld hDS (by omega) 10 (gb_bc.fld hDS (by omega) 9 (gb_bc.arr (j := 6) hDS (by omega) rfl q6))
  refine hC _ _ _ _ _ (c_bcopy_37_19 hro (fun J h1 h2 h3 => ?_))
  obtain ⟨f, g⟩ := gb_bc.fin (by omega) hb q8 h1 h2 h3
  exact hk J f g
theorem v_bcopy_37_28 (hro : gb_ro (rw 28) m) (hk : ∀ J, (∀ a, a ≠ 45 → J a = I a) → (∀ w, w < 3 → J 45 w = I 36 w) → K none J (sx_run (gb_cp rw 37 28 14) m ln)) :
    ∀ (r k : Nat), k + r = 14 → sx_V 1 (d + 1) 0 0 K 10 [(0, .ref 137), (1, .ref 128), (2, .int (nI k))] [] I (sx_run (gb_cp rw 37 28 k) m ln)
  | 0, k, hk2 => by
    have : k = 14 := by omega
    subst this
    refine sx_go m1 60 rfl (fun VV CC hV hC => ?_)
    refine ⟨fun _ => ⟨3, 0, 0, ⟨rfl, rfl, rfl, by omega, by omega⟩, Nat.le_of_ble_eq_true rfl, hk _ (fun a h => sx_up_ne h) (fun w hw => ?_)⟩, fun (c : ¬ nI 14 ≤ nI 14) => absurd (Int32.le_refl _) c⟩
    rw [sx_up_same]; exact va_cpy0 hw
  | r + 1, k, hk2 => by
    have ih := v_bcopy_37_28 hro hk r (k + 1) (by omega)
    rw [nI_succ k] at ih
    have fin : ∀ (b : Option Nat), rw 28 k = b → sx_V 1 (d + 1) 0 0 K 10 [(0, .ref 137), (1, .ref 128), (2, .int (nI k + nI 1))] [] I ((sx_upR (sx_mkR (gb_cp rw 37 28 k)) 138 (fun i => if i = k then b else sx_mkR (gb_cp rw 37 28 k) 138 i), .inr m, ln) : sx_G) := by
      intro b e
      rw [sx_mk_up_37 (rw' := gb_cp rw 37 28 (k + 1)) (fun c hc => (gb_cp_ne hc).trans (gb_cp_ne hc).symm) (fun i => by rw [gb_cp_st, e])]
      exact ih
    refine sx_go m1 60 rfl (fun VV CC hV hC => ?_)
    refine ⟨fun (c : nI 14 ≤ nI k) => absurd c (nI_ge (by omega) (by omega)), fun _ => ⟨k, ⟨rfl, by omega⟩, fun b (e : gb_cp rw 37 28 k 28 k = some b) => ?_, fun (e : gb_cp rw 37 28 k 28 k = none) => ?_⟩⟩
    · rw [gb_cp_ne (by decide)] at e
      obtain ⟨v, rfl, hv⟩ := hro k b (by omega) e
      refine sx_w_aast (cs := x1_28) (N := 14) rfl rfl (sx_al_t (by omega)) (sx_sh_t v) rfl (by omega) ?_
      exact hV _ _ _ _ _ _ _ (fin _ e)
    · rw [gb_cp_ne (by decide)] at e
      refine sx_w_aastN (cs := x1_28) (N := 14) rfl rfl rfl (by omega) ?_
      exact hV _ _ _ _ _ _ _ (fin _ e)
theorem c_bcopy_37_28 (hro : gb_ro (rw 28) m) (hk : ∀ J, (∀ a, a ≠ 137 → a ≠ 45 → J a = I a) → J 137 1 = I 128 1 → (∀ w, w < 3 → J 45 w = I 36 w) → K none J (sx_run (gb_cp rw 37 28 14) m ln)) : sx_C 1 (d + 1) [.ref 137, .ref 128] I (sx_run rw m ln) K := by
  refine sx_enter (by decide +kernel) (Nat.le_of_ble_eq_true rfl) (sx_go m1 60 rfl (fun VV CC hV hC => hV _ _ _ _ _ _ _ ?_))
  have := v_bcopy_37_28 (d := d) (K := K) (ln := ln) (I := sx_up I 137 (upd (I 137) 1 (I 128 1))) hro (fun J h1 h2 => hk J (fun a ha hb => (h1 a hb).trans (sx_up_ne ha)) (by rw [h1 137 (by decide), sx_up_same, pk_us]) (fun w hw => by rw [h2 w hw, sx_up_ne (by decide)])) 14 0 (by omega)
  rw [gb_cp0] at this
  exact this
theorem c_become_37_28 (hb : gb 28 s I) (hro : gb_ro (rw 28) m) (hk : ∀ I', gb_fr 37 I I' → gb 37 s I' → K none I' (sx_run (gb_cp rw 37 28 14) m ln)) : sx_C 6 (d + 2) [.ref 37, .ref 28] I (sx_run rw m ln) K := by
  have hDS : 37 + 8 < 28 ∨ 28 + 8 < 37 := by omega
  refine sx_enter (by decide +kernel) (Nat.le_of_ble_eq_true rfl) (sx_go m6 100 rfl (fun VV CC hV hC => ?_))
  refine ⟨10, 0, 0, ⟨rfl, rfl, rfl, by omega, by omega⟩, Nat.le_of_ble_eq_true rfl, ?_⟩
  refine sx_abs (P := fun J => sx_symG VV CC K _ _ _ _ _ _ _ J _) (gb_bc 37 28 I (fun x => x = 1 ∨ False) 1) (gb_bc.arr (j := 0) hDS (by omega) rfl (gb_bc.fld hDS (by omega) 1 (gb_bc.rf 37 28 I))) (fun J1 q1 => ?_)
  refine ⟨10, 0, 0, ⟨rfl, rfl, rfl, by omega, by omega⟩, Nat.le_of_ble_eq_true rfl, ?_⟩
  refine sx_abs (P := fun J => sx_symG VV CC K _ _ _ _ _ _ _ J _) (gb_bc 37 28 I (fun x => x = 1 ∨ False) 2) (gb_bc.arr (j := 1) hDS (by omega) rfl q1) (fun J2 q2 => ?_)
  refine ⟨10, 0, 0, ⟨rfl, rfl, rfl, by omega, by omega⟩, Nat.le_of_ble_eq_true rfl, ?_⟩
  refine sx_abs (P := fun J => sx_symG VV CC K _ _ _ _ _ _ _ J _) (gb_bc 37 28 I (fun x => x = 1 ∨ False) 3) (gb_bc.arr (j := 2) hDS (by omega) rfl q2) (fun J3 q3 => ?_)
  refine ⟨10, 0, 0, ⟨rfl, rfl, rfl, by omega, by omega⟩, Nat.le_of_ble_eq_true rfl, ?_⟩
  refine sx_abs (P := fun J => sx_symG VV CC K _ _ _ _ _ _ _ J _) (gb_bc 37 28 I (fun x => x = 1 ∨ False) 4) (gb_bc.arr (j := 3) hDS (by omega) rfl q3) (fun J4 q4 => ?_)
  refine ⟨10, 0, 0, ⟨rfl, rfl, rfl, by omega, by omega⟩, Nat.le_of_ble_eq_true rfl, ?_⟩
  refine sx_abs (P := fun J => sx_symG VV CC K _ _ _ _ _ _ _ J _) (gb_bc 37 28 I (fun x => x = 1 ∨ False) 5) (gb_bc.arr (j := 4) hDS (by omega) rfl q4) (fun J5 q5 => ?_)
  refine ⟨4, 0, 0, ⟨rfl, rfl, rfl, by omega, by omega⟩, Nat.le_of_ble_eq_true rfl, ?_⟩
  refine sx_abs (P := fun J => sx_symG VV CC K _ _ _ _ _ _ _ J _) (gb_bc 37 28 I (fun x => x = 1 ∨ False) 6) (gb_bc.arr (j := 5) hDS (by omega) rfl q5) (fun J6 q6 => ?_)
  refine ⟨3, 0, 0, ⟨rfl, rfl, rfl, by omega, by omega⟩, Nat.le_of_ble_eq_true rfl, ?_⟩
  have q8 := gb_bc.fld hDS (by omega) 10 (gb_bc.fld hDS (by omega) 9 (gb_bc.arr (j := 6) hDS (by omega) rfl q6))
  refine hC _ _ _ _ _ (c_bcopy_37_28 hro (fun J h1 h2 h3 => ?_))
  obtain ⟨f, g⟩ := gb_bc.fin (by omega) hb q8 h1 h2 h3
  exact hk J f g
theorem v_bcopy_19_28 (hro : gb_ro (rw 28) m) (hk : ∀ J, (∀ a, a ≠ 27 → J a = I a) → (∀ w, w < 3 → J 27 w = I 36 w) → K none J (sx_run (gb_cp rw 19 28 14) m ln)) :
    ∀ (r k : Nat), k + r = 14 → sx_V 1 (d + 1) 0 0 K 10 [(0, .ref 119), (1, .ref 128), (2, .int (nI k))] [] I (sx_run (gb_cp rw 19 28 k) m ln)
  | 0, k, hk2 => by
    have : k = 14 := by omega
    subst this
    refine sx_go m1 60 rfl (fun VV CC hV hC => ?_)
    refine ⟨fun _ => ⟨3, 0, 0, ⟨rfl, rfl, rfl, by omega, by omega⟩, Nat.le_of_ble_eq_true rfl, hk _ (fun a h => sx_up_ne h) (fun w hw => ?_)⟩, fun (c : ¬ nI 14 ≤ nI 14) => absurd (Int32.le_refl _) c⟩
    rw [sx_up_same]; exact va_cpy0 hw
  | r + 1, k, hk2 => by
    have ih := v_bcopy_19_28 hro hk r (k + 1) (by omega)
    rw [nI_succ k] at ih
    have fin : ∀ (b : Option Nat), rw 28 k = b → sx_V 1 (d + 1) 0 0 K 10 [(0, .ref 119), (1, .ref 128), (2, .int (nI k + nI 1))] [] I ((sx_upR (sx_mkR (gb_cp rw 19 28 k)) 120 (fun i => if i = k then b else sx_mkR (gb_cp rw 19 28 k) 120 i), .inr m, ln) : sx_G) := by
      intro b e
      rw [sx_mk_up_19 (rw' := gb_cp rw 19 28 (k + 1)) (fun c hc => (gb_cp_ne hc).trans (gb_cp_ne hc).symm) (fun i => by rw [gb_cp_st, e])]
      exact ih
    refine sx_go m1 60 rfl (fun VV CC hV hC => ?_)
    refine ⟨fun (c : nI 14 ≤ nI k) => absurd c (nI_ge (by omega) (by omega)), fun _ => ⟨k, ⟨rfl, by omega⟩, fun b (e : gb_cp rw 19 28 k 28 k = some b) => ?_, fun (e : gb_cp rw 19 28 k 28 k = none) => ?_⟩⟩
    · rw [gb_cp_ne (by decide)] at e
      obtain ⟨v, rfl, hv⟩ := hro k b (by omega) e
      refine sx_w_aast (cs := x1_28) (N := 14) rfl rfl (sx_al_t (by omega)) (sx_sh_t v) rfl (by omega) ?_
      exact hV _ _ _ _ _ _ _ (fin _ e)
    · rw [gb_cp_ne (by decide)] at e
      refine sx_w_aastN (cs := x1_28) (N := 14) rfl rfl rfl (by omega) ?_
      exact hV _ _ _ _ _ _ _ (fin _ e)
theorem c_bcopy_19_28 (hro : gb_ro (rw 28) m) (hk : ∀ J, (∀ a, a ≠ 119 → a ≠ 27 → J a = I a) → J 119 1 = I 128 1 → (∀ w, w < 3 → J 27 w = I 36 w) → K none J (sx_run (gb_cp rw 19 28 14) m ln)) : sx_C 1 (d + 1) [.ref 119, .ref 128] I (sx_run rw m ln) K := by
  refine sx_enter (by decide +kernel) (Nat.le_of_ble_eq_true rfl) (sx_go m1 60 rfl (fun VV CC hV hC => hV _ _ _ _ _ _ _ ?_))
  have := v_bcopy_19_28 (d := d) (K := K) (ln := ln) (I := sx_up I 119 (upd (I 119) 1 (I 128 1))) hro (fun J h1 h2 => hk J (fun a ha hb => (h1 a hb).trans (sx_up_ne ha)) (by rw [h1 119 (by decide), sx_up_same, pk_us]) (fun w hw => by rw [h2 w hw, sx_up_ne (by decide)])) 14 0 (by omega)
  rw [gb_cp0] at this
  exact this
theorem c_become_19_28 (hb : gb 28 s I) (hro : gb_ro (rw 28) m) (hk : ∀ I', gb_fr 19 I I' → gb 19 s I' → K none I' (sx_run (gb_cp rw 19 28 14) m ln)) : sx_C 6 (d + 2) [.ref 19, .ref 28] I (sx_run rw m ln) K := by
  have hDS : 19 + 8 < 28 ∨ 28 + 8 < 19 := by omega
  refine sx_enter (by decide +kernel) (Nat.le_of_ble_eq_true rfl) (sx_go m6 100 rfl (fun VV CC hV hC => ?_))
  refine ⟨10, 0, 0, ⟨rfl, rfl, rfl, by omega, by omega⟩, Nat.le_of_ble_eq_true rfl, ?_⟩
  refine sx_abs (P := fun J => sx_symG VV CC K _ _ _ _ _ _ _ J _) (gb_bc 19 28 I (fun x => x = 1 ∨ False) 1) (gb_bc.arr (j := 0) hDS (by omega) rfl (gb_bc.fld hDS (by omega) 1 (gb_bc.rf 19 28 I))) (fun J1 q1 => ?_)
  refine ⟨10, 0, 0, ⟨rfl, rfl, rfl, by omega, by omega⟩, Nat.le_of_ble_eq_true rfl, ?_⟩
  refine sx_abs (P := fun J => sx_symG VV CC K _ _ _ _ _ _ _ J _) (gb_bc 19 28 I (fun x => x = 1 ∨ False) 2) (gb_bc.arr (j := 1) hDS (by omega) rfl q1) (fun J2 q2 => ?_)
  refine ⟨10, 0, 0, ⟨rfl, rfl, rfl, by omega, by omega⟩, Nat.le_of_ble_eq_true rfl, ?_⟩
  refine sx_abs (P := fun J => sx_symG VV CC K _ _ _ _ _ _ _ J _) (gb_bc 19 28 I (fun x => x = 1 ∨ False) 3) (gb_bc.arr (j := 2) hDS (by omega) rfl q2) (fun J3 q3 => ?_)
  refine ⟨10, 0, 0, ⟨rfl, rfl, rfl, by omega, by omega⟩, Nat.le_of_ble_eq_true rfl, ?_⟩
  refine sx_abs (P := fun J => sx_symG VV CC K _ _ _ _ _ _ _ J _) (gb_bc 19 28 I (fun x => x = 1 ∨ False) 4) (gb_bc.arr (j := 3) hDS (by omega) rfl q3) (fun J4 q4 => ?_)
  refine ⟨10, 0, 0, ⟨rfl, rfl, rfl, by omega, by omega⟩, Nat.le_of_ble_eq_true rfl, ?_⟩
  refine sx_abs (P := fun J => sx_symG VV CC K _ _ _ _ _ _ _ J _) (gb_bc 19 28 I (fun x => x = 1 ∨ False) 5) (gb_bc.arr (j := 4) hDS (by omega) rfl q4) (fun J5 q5 => ?_)
  refine ⟨4, 0, 0, ⟨rfl, rfl, rfl, by omega, by omega⟩, Nat.le_of_ble_eq_true rfl, ?_⟩
  refine sx_abs (P := fun J => sx_symG VV CC K _ _ _ _ _ _ _ J _) (gb_bc 19 28 I (fun x => x = 1 ∨ False) 6) (gb_bc.arr (j := 5) hDS (by omega) rfl q5) (fun J6 q6 => ?_)
  refine ⟨3, 0, 0, ⟨rfl, rfl, rfl, by omega, by omega⟩, Nat.le_of_ble_eq_true rfl, ?_⟩
  have q8 := gb_bc.fld hDS (by omega) 10 (gb_bc.fld hDS (by omega) 9 (gb_bc.arr (j := 6) hDS (by omega) rfl q6))
  refine hC _ _ _ _ _ (c_bcopy_19_28 hro (fun J h1 h2 h3 => ?_))
  obtain ⟨f, g⟩ := gb_bc.fin (by omega) hb q8 h1 h2 h3
  exact hk J f g
theorem c_enlist_19 {n : Nat} {a b c : Int32} (hb : gb 19 s I) (hn : s 0 = nI n) (hn10 : n < 10) (hT : gs_tn s) (hk : ∀ I', gb_fr 19 I I' → gb 19 (gs_comes s n a b c) I' → K (some (.int (nI n))) I' (sx_run rw m ln)) : sx_C 7 (d + 1) [.ref 19, .int a, .int b, .int c] I (sx_run rw m ln) K := by
  have l1 : gs_lo s (gs_set s n 0 a) := gs_lo.set s n 0 a (by omega) (by omega)
  have l2 := l1.tr (gs_lo.set _ n 1 b (by omega) (by omega))
  have l3 := l2.tr (gs_lo.set _ n 2 c (by omega) (by omega))
  have l4 := l3.tr (gs_lo.set _ n 3 (nI 0) (by omega) (by omega))
  have l5 := l4.tr (gs_lo.set _ n 4 (nI 1) (by omega) (by omega))
  have h1 := hb.set (k := n) (w := 0) (by omega) (by omega) a hT
  have e1 : I 19 1 = nI n := hb.1.1.trans hn
  have fr : ∀ (J : sx_I) (p : Nat) (x : Int32), 19 ≤ p → p ≤ 27 → gb_fr 19 I J → gb_fr 19 I (sx_up J p (upd (J p) n x)) := fun J p x h1 h2 h => h.tr (gb_fr.up J p _ h1 h2)
  refine sx_enter (by decide +kernel) (Nat.le_of_ble_eq_true rfl) (sx_go m7 60 rfl (fun VV CC hV hC => ?_))
  refine ⟨fun (c1 : nI 10 ≤ I 19 1) => ?_, fun _ => ⟨n, ⟨e1, by omega⟩, ?_⟩⟩
  · exfalso; rw [e1] at c1; exact nI_ge hn10 (by omega) c1
  refine sx_abs (P := fun J => sx_symG VV CC K _ _ _ _ _ _ _ J _) (fun J => gb_fr 19 I J ∧ gb 19 (gs_set s n 0 a) J ∧ J 19 1 = nI n) ⟨gb_fr.up I 20 _ (by omega) (by omega), h1, e1⟩ (fun J1 q1 => ⟨n, ⟨e1, by omega⟩, ?_⟩)
  refine sx_abs (P := fun J => sx_symG VV CC K _ _ _ _ _ _ _ J _) (fun J => gb_fr 19 I J ∧ gb 19 (gs_set (gs_set s n 0 a) n 1 b) J ∧ J 19 1 = nI n) ⟨q1.1.tr (gb_fr.up J1 21 _ (by omega) (by omega)), q1.2.1.set (w := 1) (by omega) (by omega) b (l1.tn hT), q1.2.2⟩ (fun J2 q2 => ⟨n, ⟨e1, by omega⟩, ?_⟩)
  refine sx_abs (P := fun J => sx_symG VV CC K _ _ _ _ _ _ _ J _) (fun J => gb_fr 19 I J ∧ gb 19 (gs_set (gs_set (gs_set s n 0 a) n 1 b) n 2 c) J ∧ J 19 1 = nI n) ⟨q2.1.tr (gb_fr.up J2 22 _ (by omega) (by omega)), q2.2.1.set (w := 2) (by omega) (by omega) c (l2.tn hT), q2.2.2⟩ (fun J3 q3 => ⟨n, ⟨e1, by omega⟩, ?_⟩)
  refine sx_abs (P := fun J => sx_symG VV CC K _ _ _ _ _ _ _ J _) (fun J => gb_fr 19 I J ∧ gb 19 (gs_set (gs_set (gs_set (gs_set s n 0 a) n 1 b) n 2 c) n 3 (nI 0)) J ∧ J 19 1 = nI n) ⟨q3.1.tr (gb_fr.up J3 23 _ (by omega) (by omega)), q3.2.1.set (w := 3) (by omega) (by omega) (nI 0) (l3.tn hT), q3.2.2⟩ (fun J4 q4 => ⟨n, ⟨e1, by omega⟩, ?_⟩)
  refine sx_abs (P := fun J => sx_symG VV CC K _ _ _ _ _ _ _ J _) (fun J => gb_fr 19 I J ∧ gb 19 (gs_set (gs_set (gs_set (gs_set (gs_set s n 0 a) n 1 b) n 2 c) n 3 (nI 0)) n 4 (nI 1)) J ∧ J 19 1 = nI n) ⟨q4.1.tr (gb_fr.up J4 24 _ (by omega) (by omega)), q4.2.1.set (w := 4) (by omega) (by omega) (nI 1) (l4.tn hT), q4.2.2⟩ (fun J5 q5 => ?_)
  have h6 := q5.2.1.num (nI (n + 1)) (l5.tn hT)
  rw [gs_comes_alt, ← nI_add, ← q5.2.2] at h6
  exact sx_kk e1 (hk _ (q5.1.tr (gb_fr.up J5 19 _ (by omega) (by omega))) h6)
theorem v_drawn_19 {n k : Nat} (hb : gb 19 s I) (hi : gs_inv s) (hn : s 0 = nI n) (hn10 : n < 10) (hT : gs_tn s) : ∀ (f p i : Nat), i + f = 20 → p < 20 → (∀ I', gb_fr 19 I I' → gb 19 (gs_comes (gs_drawS s) n (nI k) (nI (gs_free (gs_occ s n) f p)) (nI (gs_drawV s 60))) I' → K none I' (sx_run rw m ln)) →
    sx_V 8 (d + 2) 0 0 K 18 [(0, .ref 19), (1, .int (nI k)), (2, .int (nI p)), (3, .int (nI i))] [] I (sx_run rw m ln)
  | f, p, i, hfi, hp, hk => by
    have hend : ∀ q, (∀ I', gb_fr 19 I I' → gb 19 (gs_comes (gs_drawS s) n (nI k) (nI q) (nI (gs_drawV s 60))) I' → K none I' (sx_run rw m ln)) → ∀ (KK : sx_K), (∀ I2 x, K none I2 (sx_run rw m ln) → KK (some (.int x)) I2 (sx_run rw m ln)) → ∀ I1, gb_fr 19 I I1 → gb 19 (gs_drawS s) I1 → sx_C 7 (d + 1) [.ref 19, .int (nI k), .int (nI q), .int (nI (gs_drawV s 60))] I1 (sx_run rw m ln) KK := by
      intro q hq KK hKK I1 f1 b1
      have l1 : gs_lo s (gs_drawS s) := gs_lo.up s 11 _ (by omega) (by omega)
      exact c_enlist_19 b1 (l1.1.trans hn) hn10 (l1.tn hT) (fun I2 f2 b2 => hKK _ _ (hq I2 (f1.tr f2) b2))
    cases f with
    | zero =>
      refine sx_go m8 60 rfl (fun VV CC hV hC => ?_)
      refine ⟨fun _ => hC _ _ _ _ _ (c_draw_19 hb hT (fun I1 f1 b1 => ⟨by decide +kernel, hC _ _ _ _ _ ?_⟩)), fun (c1 : ¬ nI 20 ≤ nI i) => absurd (nI_le (show 20 ≤ i by omega) (by omega)) c1⟩
      rw [gs_drawV_eq _ (by omega) (by omega)]
      exact hend p hk _ (fun I2 x h => h) I1 f1 b1
    | succ f =>
      refine sx_go m8 60 rfl (fun VV CC hV hC => ?_)
      refine ⟨fun (c1 : nI 20 ≤ nI i) => absurd c1 (nI_ge (by omega) (by omega)), fun _ => hC _ _ _ _ _ (c_owner_19 hb hn (by omega) ⟨fun (c2 : gs_on (gs_whoV s n (nI p)) = -1000000005) => hC _ _ _ _ _ (c_draw_19 hb hT (fun I1 f1 b1 => ⟨by decide +kernel, hC _ _ _ _ _ ?_⟩)), fun (c2 : ¬ gs_on (gs_whoV s n (nI p)) = -1000000005) => ⟨by decide +kernel, hV _ _ _ _ _ _ _ ?_⟩⟩)⟩
      · rw [gs_on_none (by omega)] at c2
        have eo : gs_occ s n p = false := decide_eq_false c2
        rw [gs_drawV_eq _ (by omega) (by omega)]
        refine hend p (fun I' h1 h2 => hk I' h1 ?_) _ (fun I2 x h => h) I1 f1 b1
        unfold gs_free
        rw [eo]
        exact h2
      · rw [gs_on_none (by omega)] at c2
        have eo : gs_occ s n p = true := decide_eq_true (Decidable.not_not.mp c2)
        rw [nI_add, gs_remn (by omega) (by omega) (by omega)]
        have := v_drawn_19 (k := k) hb hi hn hn10 hT f ((p + 1) % 20) (i + 1) (by omega) (by omega) (fun I' h1 h2 => hk I' h1 (by unfold gs_free; rw [eo]; exact h2))
        rw [nI_succ i] at this
        exact this
theorem c_drawn_19 {n : Nat} (hb : gb 19 s I) (hi : gs_inv s) (hn : s 0 = nI n) (hn10 : n < 10) (hT : gs_tn s) (hk : ∀ I', gb_fr 19 I I' → gb 19 (gs_deal1 n s) I' → K none I' (sx_run rw m ln)) : sx_C 8 (d + 2) [.ref 19] I (sx_run rw m ln) K := by
  have l1 : gs_lo s (gs_drawS s) := gs_lo.up s 11 _ (by omega) (by omega)
  have l2 : gs_lo s (gs_drawS (gs_drawS s)) := l1.tr (gs_lo.up _ 11 _ (by omega) (by omega))
  refine sx_enter (by decide +kernel) (Nat.le_of_ble_eq_true rfl) (sx_go m8 60 rfl (fun VV CC hV hC => ?_))
  refine hC _ _ _ _ _ (c_draw_19 hb hT (fun I1 f1 b1 => ⟨by decide +kernel, hC _ _ _ _ _ (c_draw_19 b1 (l1.tn hT) (fun I2 f2 b2 => ⟨by decide +kernel, hV _ _ _ _ _ _ _ ?_⟩))⟩))
  rw [gs_drawV_eq _ (by omega) (by omega), gs_drawV_eq _ (by omega) (by omega)]
  refine v_drawn_19 (d := d) (n := n) b2 ((hi.up (i := 11) (by omega) (by omega) _).up (i := 11) (by omega) (by omega) _) (l2.1.trans hn) hn10 (l2.tn hT) 20 _ 0 (by omega) (Nat.mod_lt _ (by omega)) (fun I3 f3 b3 => hk I3 ((f1.tr f2).tr f3) ?_)
  unfold gs_deal1
  unfold gs_drawS at b3 ⊢
  rw [gs_occ_up, gs_occ_up] at b3
  exact b3
theorem v_behind1 {n t0 c : Nat} (hc : c ≤ 200) (hi : gs_inv s) (htx : gb_tx I (rw 37) m ln s) (hn : s 0 = nI n) (hn10 : n ≤ 10) (hnt : s 2 = nI t0) (ht0 : t0 + c < 2 ^ 31) (hk : ∀ I', gb_fr 37 I I' → gb 37 (gs_many c s) I' → K (some (.int (gs_cnt (gs_many c s)))) I' (sx_run rw m ln)) :
    ∀ (r k : Nat) (I' : sx_I), k + r = c → (gb_fr 37 I I' ∧ gb 37 (gs_many k s) I') → sx_V 108 (d + 6) 0 0 K 2 [(0, .ref 15), (1, .int (nI c)), (2, .int (nI k))] [] I' (sx_run rw m ln) := by
  refine sx_for c (fun I' h => ?_) (fun k I' hkc h ih => ?_)
  · obtain ⟨hf, hb⟩ := h
    have hl := gs_lo.many hn hn10 c
    refine sx_go m108 60 rfl (fun VV CC hV hC => ?_)
    refine ⟨fun _ => hC _ _ _ _ _ (c_counted_37 hb (hl.1.trans hn) hn10 (htx.lo (hf.hi (by omega)) hl) (gs_many_2 hnt c) ht0 (fun I2 h2 => hk I2 (hf.tr h2.fr) (h2.gb hb (by omega)))), fun (c1 : ¬ nI c ≤ nI c) => absurd (Int32.le_refl _) c1⟩
  · obtain ⟨hf, hb⟩ := h
    have hl := gs_lo.many hn hn10 k
    refine sx_go m108 60 rfl (fun VV CC hV hC => ?_)
    refine ⟨fun (c1 : nI c ≤ nI k) => absurd c1 (nI_ge hkc (by omega)), fun _ => hC _ _ _ _ _ (c_pass_37 hb (hi.many k) (htx.lo (hf.hi (by omega)) hl) (gs_many_2 hnt k) (by omega) (fun I2 f2 b2 => hV _ _ _ _ _ _ _ ?_))⟩
    have := ih I2 ⟨hf.tr f2, b2⟩
    rw [nI_succ] at this
    exact this
/-- countedBehind(n) -/
theorem c_behind1 {t0 c : Nat} {x : Int32} (hx : x = nI c) (hc : c ≤ 200) (hb : gb 37 s I) (hi : gs_inv s) (htx : gb_tx I (rw 37) m ln s) (hnt : s 2 = nI t0) (ht0 : t0 + c < 2 ^ 31) (hk : ∀ I', gb_fr 37 I I' → gb 37 (gs_many c s) I' → K (some (.int (gs_cnt (gs_many c s)))) I' (sx_run rw m ln)) : sx_C 108 (d + 6) [.ref 15, .int x] I (sx_run rw m ln) K := by
  obtain ⟨⟨n, hn, hn10⟩, -⟩ := id hi
  subst hx
  refine sx_enter (by decide +kernel) (Nat.le_of_ble_eq_true rfl) (sx_go m108 60 rfl (fun VV CC hV hC => hV _ _ _ _ _ _ _ ?_))
  exact v_behind1 (d := d) hc hi htx hn hn10 hnt ht0 hk c 0 I (by omega) ⟨gb_fr.rf _ _, hb⟩
/-- which of the next c nights has the first raid, from 1 on; 0: none -/
def gs_firstRaid (s : Nat → Int32) (c : Nat) : Int32 := if gs_fst (fun i => gs_rd (gs_many i s)) c < c then nI (gs_fst (fun i => gs_rd (gs_many i s)) c + 1) else nI 0
theorem v_first {n t0 c : Nat} (hc : c ≤ 200) (hi : gs_inv s) (htx : gb_tx I (rw 37) m ln s) (hn : s 0 = nI n) (hn10 : n ≤ 10) (hnt : s 2 = nI t0) (ht0 : t0 + c < 2 ^ 31) (hk : ∀ I', gb_fr 37 I I' → K (some (.int (gs_firstRaid s c))) I' (sx_run rw m ln)) :
    ∀ (r k : Nat) (I' : sx_I), k + r = c → (gb_fr 37 I I' ∧ gb 37 (gs_many k s) I' ∧ ∀ i, i < k → gs_rd (gs_many i s) = false) → sx_V 109 (d + 6) 0 0 K 2 [(0, .ref 15), (1, .int (nI c)), (2, .int (nI (k + 1)))] [] I' (sx_run rw m ln) := by
  refine sx_for c (fun I' h => ?_) (fun k I' hkc h ih => ?_)
  · obtain ⟨hf, hb, hbef⟩ := h
    have hk := hk I' hf
    unfold gs_firstRaid at hk
    rw [gs_fst_none _ _ hbef, if_neg (Nat.lt_irrefl _)] at hk
    refine sx_go m109 60 rfl (fun VV CC hV hC => ?_)
    refine ⟨fun _ => hk, fun (c1 : ¬ nI c < nI (c + 1)) => absurd (nI_lt (by omega) (by omega)) c1⟩
  · obtain ⟨hf, hb, hbef⟩ := h
    have hl := gs_lo.many hn hn10 k
    refine sx_go m109 60 rfl (fun VV CC hV hC => ?_)
    refine ⟨fun (c1 : nI c < nI (k + 1)) => absurd c1 (nI_nlt (by omega) (by omega)), fun _ => hC _ _ _ _ _ (c_pass_37 hb (hi.many k) (htx.lo (hf.hi (by omega)) hl) (gs_many_2 hnt k) (by omega) (fun I2 f2 b2 => ?_))⟩
    cases e : gs_rd (gs_many k s) with
    | false =>
      have := ih I2 ⟨hf.tr f2, b2, fun i hi => by
        rcases Nat.lt_or_ge i k with q | q
        · exact hbef i q
        · have : i = k := by omega
          subst this; exact e⟩
      rw [nI_succ (k + 1)] at this
      exact ⟨fun _ => hV _ _ _ _ _ _ _ this, fun (q : ¬ nI 0 = 0) => absurd rfl q⟩
    | true =>
      have hk := hk I2 (hf.tr f2)
      unfold gs_firstRaid at hk
      rw [gs_fst_at _ c k hkc hbef e, if_pos hkc] at hk
      exact ⟨fun (q : nI 1 = 0) => absurd q (by decide +kernel), fun _ => hk⟩
theorem c_first {t0 c : Nat} {x : Int32} (hx : x = nI c) (hc : c ≤ 200) (hb : gb 37 s I) (hi : gs_inv s) (htx : gb_tx I (rw 37) m ln s) (hnt : s 2 = nI t0) (ht0 : t0 + c < 2 ^ 31) (hk : ∀ I', gb_fr 37 I I' → K (some (.int (gs_firstRaid s c))) I' (sx_run rw m ln)) : sx_C 109 (d + 6) [.ref 15, .int x] I (sx_run rw m ln) K := by
  obtain ⟨⟨n, hn, hn10⟩, -⟩ := id hi
  subst hx
  refine sx_enter (by decide +kernel) (Nat.le_of_ble_eq_true rfl) (sx_go m109 60 rfl (fun VV CC hV hC => hV _ _ _ _ _ _ _ ?_))
  exact v_first (d := d) hc hi htx hn hn10 hnt ht0 hk c 0 I (by omega) ⟨gb_fr.rf _ _, hb, fun i hi => absurd hi (Nat.not_lt_zero i)⟩
end
