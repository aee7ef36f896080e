/-! ===== the class: slots ===== -/
/-- slot j's cells: thing, number or kind, worth, size, row -/
def gl1 (j : Nat) (h n w z : Int32) (r : Nat → Int32) (I : sx_I) : Prop := I (63 + 3 * j) 0 = h ∧ (h = nI 1 → (∃ q, n = nI q ∧ q < 6) ∧ I (63 + 3 * j) 1 = n ∧ gs_worth (I (63 + 3 * j) 1) (I (63 + 3 * j) 2) = w) ∧ (h = nI 2 → I (64 + 3 * j) 1 = z ∧ ∀ i, i < 24 → I (65 + 3 * j) i = r i) ∧ (h = nI 3 → I (63 + 3 * j) 3 = n)
def gl (H N W Sz Rw : Nat → Int32) (I : sx_I) : Prop := ∀ j, j < 5 → gl1 j (H j) (N j) (W j) (Sz j) (fun i => Rw (24 * j + i)) I
def gl_ok (H Sz : Nat → Int32) : Prop := ∀ j, j < 5 → (H j = 0 ∨ H j = nI 1 ∨ H j = nI 2 ∨ H j = nI 3) ∧ ∃ c, Sz j = nI c ∧ c ≤ 24
theorem gl1.fr {j : Nat} {h n w z : Int32} {r : Nat → Int32} {I J : sx_I} (hl : gl1 j h n w z r I) (hJ : ∀ a, 63 + 3 * j ≤ a → a ≤ 65 + 3 * j → J a = I a) : gl1 j h n w z r J := by
  unfold gl1
  rw [hJ (63 + 3 * j) (by omega) (by omega), hJ (64 + 3 * j) (by omega) (by omega), hJ (65 + 3 * j) (by omega) (by omega)]
  exact hl
theorem gl.fr {H N W Sz Rw : Nat → Int32} {I J : sx_I} (hl : gl H N W Sz Rw I) (hJ : ∀ a, 63 ≤ a → a ≤ 77 → J a = I a) : gl H N W Sz Rw J := fun j hj => (hl j hj).fr (fun a h1 h2 => hJ a (by omega) (by omega))
theorem gl.set {H N W Sz Rw Rw' : Nat → Int32} {I J : sx_I} {j : Nat} {h n w z : Int32} (hl : gl H N W Sz Rw I) (hj : j < 5) (hJ : ∀ a, (a < 63 + 3 * j ∨ 65 + 3 * j < a) → J a = I a) (h1 : gl1 j h n w z (fun i => Rw' (24 * j + i)) J) (hR : ∀ i, (i < 24 * j ∨ 24 * j + 24 ≤ i) → Rw' i = Rw i) : gl (upd H j h) (upd N j n) (upd W j w) (upd Sz j z) Rw' J := by
  intro k hk
  by_cases e : k = j
  · subst e
    rw [pk_us, pk_us, pk_us, pk_us]
    exact h1
  · rw [pk_un e, pk_un e, pk_un e, pk_un e]
    have := (hl k hk).fr (J := J) (fun a h1 h2 => hJ a (by omega))
    refine ⟨this.1, this.2.1, fun q => ⟨(this.2.2.1 q).1, fun i hi => ?_⟩, this.2.2.2⟩
    show _ = Rw' (24 * k + i)
    rw [hR _ (by omega)]
    exact (this.2.2.1 q).2 i hi
section
variable {d m : Nat} {I : sx_I} {rw : Nat → Nat → Option Nat} {ln : Nat → Nat} {K : sx_K} {s S Z R H N W Sz Rw : Nat → Int32}
theorem c1_ask_63 {k : Int32} (hl : gl H N W Sz Rw I) (hk : K (some (.int (gs_askA H N W (nI 0) k))) I (sx_run rw m ln)) : sx_C 93 (d + 3) [.ref 15, .int (nI 0), .int k] I (sx_run rw m ln) K := by
  have hsl : ¬ gs_in (nI 0) 0 (nI 4) = 0 := gs_in_c (by omega) (by omega)
  obtain ⟨g0, g1, g2, g3⟩ := hl 0 (by omega)
  have g0 : I 63 0 = H 0 := g0
  unfold gs_askA at hk
  rw [show (nI 0).toNatClampNeg = 0 from nI_clamp (by omega)] at hk
  refine sx_enter (by decide +kernel) (Nat.le_of_ble_eq_true rfl) (sx_go m93 100 rfl (fun VV CC hV hC => ?_))
  refine hC _ _ _ _ _ (c_isSlot1 ⟨fun (c1 : gs_in (nI 0) 0 (nI 4) = 0) => absurd c1 hsl, fun _ => hC _ _ _ _ _ (c_isKind ⟨fun (c2 : ¬ gs_in k 0 (nI 5) = 0) => ⟨0, ⟨rfl, by omega⟩, fun b (eb : some 63 = some b) => ?_, fun (eb : some 63 = none) => by cases eb⟩, fun (c2 : gs_in k 0 (nI 5) = 0) => by rw [if_pos (Or.inr c2)] at hk; exact hk⟩)⟩)
  cases eb
  rw [if_neg (fun h => h.elim hsl c2)] at hk
  refine ⟨fun (c3 : ¬ I 63 0 = 0) => ⟨fun (c4 : ¬ I 63 0 = nI 1) => ?_, fun (c4 : I 63 0 = nI 1) => ?_⟩, fun (c3 : I 63 0 = 0) => ?_⟩
  · rw [g0] at c3 c4
    rw [if_neg c3, if_neg (fun h => c4 h.1)] at hk; exact hk
  · rw [g0] at c3 c4
    obtain ⟨⟨q, q1, q2⟩, q3, q4⟩ := g1 c4
    have q3 : I 63 1 = N 0 := q3
    obtain ⟨o, ho, -, ho5⟩ := gs_in_nat (a := 0) (by omega) c2 (by decide)
    rw [if_neg c3] at hk
    refine hC _ _ _ _ _ (c_isUnder (q3.trans q1) ho q2 (by omega) ⟨fun (c5 : ¬ gs_isOf (I 63 1) k = 0) => ?_, fun (c5 : gs_isOf (I 63 1) k = 0) => ?_⟩)
    · rw [q3] at c5
      rw [if_pos ⟨c4, c5⟩] at hk
      exact hC _ _ _ _ _ (c_worth1 (sx_kk q4 hk))
    · rw [q3] at c5
      rw [if_neg (fun h => h.2 c5)] at hk; exact hk
  · rw [g0] at c3
    rw [if_pos c3] at hk; exact hk
theorem c1_rest_63 {v : Int32} (hl : gl H N W Sz Rw I) (hk : K (some (.int (gs_rest H N (nI 0) v))) I (sx_run rw m ln)) : sx_C 95 (d + 3) [.ref 15, .int (nI 0), .int v] I (sx_run rw m ln) K := by
  have hsl : ¬ gs_in (nI 0) 0 (nI 4) = 0 := gs_in_c (by omega) (by omega)
  obtain ⟨g0, g1, g2, g3⟩ := hl 0 (by omega)
  have g0 : I 63 0 = H 0 := g0
  unfold gs_rest at hk
  rw [if_neg hsl, show (nI 0).toNatClampNeg = 0 from nI_clamp (by omega)] at hk
  refine sx_enter (by decide +kernel) (Nat.le_of_ble_eq_true rfl) (sx_go m95 100 rfl (fun VV CC hV hC => ?_))
  refine hC _ _ _ _ _ (c_isSlot1 ⟨fun _ => ⟨0, ⟨rfl, by omega⟩, fun b (eb : some 63 = some b) => ?_, fun (eb : some 63 = none) => by cases eb⟩, fun (c1 : gs_in (nI 0) 0 (nI 4) = 0) => absurd c1 hsl⟩)
  cases eb
  refine ⟨fun (c3 : ¬ I 63 0 = 0) => ⟨0, ⟨rfl, by omega⟩, fun b (eb : some 63 = some b) => ?_, fun (eb : some 63 = none) => by cases eb⟩, fun (c3 : I 63 0 = 0) => ?_⟩
  · cases eb
    rw [g0] at c3
    refine ⟨fun (c4 : I 63 0 = nI 3) => ?_, fun (c4 : ¬ I 63 0 = nI 3) => ?_⟩
    · rw [g0] at c4
      rw [if_neg (fun h => h c4)] at hk
      refine ⟨fun (c5 : ¬ v = 0) => ⟨0, ⟨rfl, by omega⟩, fun b (eb : some 63 = some b) => ?_, fun (eb : some 63 = none) => by cases eb⟩, fun (c5 : v = 0) => ?_⟩
      · cases eb
        rw [if_neg c5] at hk
        refine ⟨c5, sx_kk ?_ hk⟩
        have g3 : I 63 3 = N 0 := g3 c4
        rw [g3]; rfl
      · rw [if_pos c5] at hk; exact hk
    · rw [g0] at c4
      rw [if_pos c4, if_neg c3] at hk; exact hk
  · rw [g0] at c3
    rw [if_pos (by rw [c3]; decide +kernel), if_pos c3] at hk; exact hk
theorem c1_item_63 {p : Int32} (hl : gl H N W Sz Rw I) (ho : gl_ok H Sz) (hk : K (some (.int (gs_item H Sz Rw (nI 0) p))) I (sx_run rw m ln)) : sx_C 94 (d + 3) [.ref 15, .int (nI 0), .int p] I (sx_run rw m ln) K := by
  have hsl : ¬ gs_in (nI 0) 0 (nI 4) = 0 := gs_in_c (by omega) (by omega)
  obtain ⟨g0, g1, g2, g3⟩ := hl 0 (by omega)
  have g0 : I 63 0 = H 0 := g0
  obtain ⟨-, z, oz, oz24⟩ := ho 0 (by omega)
  unfold gs_item at hk
  rw [if_neg hsl, show (nI 0).toNatClampNeg = 0 from nI_clamp (by omega)] at hk
  refine sx_enter (by decide +kernel) (Nat.le_of_ble_eq_true rfl) (sx_go m94 100 rfl (fun VV CC hV hC => ?_))
  refine hC _ _ _ _ _ (c_isSlot1 ⟨fun _ => ⟨0, ⟨rfl, by omega⟩, fun b (eb : some 63 = some b) => ?_, fun (eb : some 63 = none) => by cases eb⟩, fun (c1 : gs_in (nI 0) 0 (nI 4) = 0) => absurd c1 hsl⟩)
  cases eb
  refine ⟨fun (c3 : ¬ I 63 0 = 0) => ⟨0, ⟨rfl, by omega⟩, fun b (eb : some 63 = some b) => ?_, fun (eb : some 63 = none) => by cases eb⟩, fun (c3 : I 63 0 = 0) => ?_⟩
  · cases eb
    rw [g0] at c3
    refine ⟨fun (c4 : I 63 0 = nI 2) => ⟨0, ⟨rfl, by omega⟩, fun b (eb : some 63 = some b) => ?_, fun (eb : some 63 = none) => by cases eb⟩, fun (c4 : ¬ I 63 0 = nI 2) => ?_⟩
    · cases eb
      rw [g0] at c4
      obtain ⟨q1, q2⟩ := g2 c4
      have q1 : I 64 1 = Sz 0 := q1
      rw [if_neg (fun h => h c4)] at hk
      refine hC _ _ _ _ _ (c_isWithin ⟨fun (c5 : ¬ gs_in p (nI 0) (I 64 1 - nI 1) = 0) => ?_, fun (c5 : gs_in p (nI 0) (I 64 1 - nI 1) = 0) => ?_⟩)
      · rw [q1] at c5
        rw [if_neg (show ¬ gs_in p 0 (Sz 0 - nI 1) = 0 from c5)] at hk
        obtain ⟨i, rfl, hi⟩ := gs_place oz (by omega) c5
        have q2 : I 65 i = Rw (24 * 0 + i) := q2 i (by omega)
        rw [nI_clamp (by omega)] at hk
        refine hC _ _ _ _ _ (c_isNum_64 rfl (by omega) (fun c6 => ⟨fun _ => ?_, fun (q : ¬ nI 0 = 0) => absurd rfl q⟩) (fun c6 => ⟨fun (q : nI 1 = 0) => absurd q (by decide +kernel), fun _ => ⟨i, ⟨rfl, by omega⟩, ?_⟩⟩))
        · rw [if_pos (q2.symm.trans c6)] at hk; exact hk
        · rw [if_neg (fun h => c6 (q2.trans h))] at hk; exact sx_kk q2 hk
      · rw [q1] at c5
        rw [if_pos (show gs_in p 0 (Sz 0 - nI 1) = 0 from c5)] at hk; exact hk
    · rw [g0] at c4
      rw [if_pos c4, if_neg c3] at hk; exact hk
  · rw [g0] at c3
    rw [if_pos (by rw [c3]; decide +kernel), if_pos c3] at hk; exact hk
theorem c1_ask_66 {k : Int32} (hl : gl H N W Sz Rw I) (hk : K (some (.int (gs_askA H N W (nI 1) k))) I (sx_run rw m ln)) : sx_C 93 (d + 3) [.ref 15, .int (nI 1), .int k] I (sx_run rw m ln) K := by
  have hsl : ¬ gs_in (nI 1) 0 (nI 4) = 0 := gs_in_c (by omega) (by omega)
  obtain ⟨g0, g1, g2, g3⟩ := hl 1 (by omega)
  have g0 : I 66 0 = H 1 := g0
  unfold gs_askA at hk
  rw [show (nI 1).toNatClampNeg = 1 from nI_clamp (by omega)] at hk
  refine sx_enter (by decide +kernel) (Nat.le_of_ble_eq_true rfl) (sx_go m93 100 rfl (fun VV CC hV hC => ?_))
  refine hC _ _ _ _ _ (c_isSlot1 ⟨fun (c1 : gs_in (nI 1) 0 (nI 4) = 0) => absurd c1 hsl, fun _ => hC _ _ _ _ _ (c_isKind ⟨fun (c2 : ¬ gs_in k 0 (nI 5) = 0) => ⟨1, ⟨rfl, by omega⟩, fun b (eb : some 66 = some b) => ?_, fun (eb : some 66 = none) => by cases eb⟩, fun (c2 : gs_in k 0 (nI 5) = 0) => by rw [if_pos (Or.inr c2)] at hk; exact hk⟩)⟩)
  cases eb
  rw [if_neg (fun h => h.elim hsl c2)] at hk
  refine ⟨fun (c3 : ¬ I 66 0 = 0) => ⟨fun (c4 : ¬ I 66 0 = nI 1) => ?_, fun (c4 : I 66 0 = nI 1) => ?_⟩, fun (c3 : I 66 0 = 0) => ?_⟩
  · rw [g0] at c3 c4
    rw [if_neg c3, if_neg (fun h => c4 h.1)] at hk; exact hk
  · rw [g0] at c3 c4
    obtain ⟨⟨q, q1, q2⟩, q3, q4⟩ := g1 c4
    have q3 : I 66 1 = N 1 := q3
    obtain ⟨o, ho, -, ho5⟩ := gs_in_nat (a := 0) (by omega) c2 (by decide)
    rw [if_neg c3] at hk
    refine hC _ _ _ _ _ (c_isUnder (q3.trans q1) ho q2 (by omega) ⟨fun (c5 : ¬ gs_isOf (I 66 1) k = 0) => ?_, fun (c5 : gs_isOf (I 66 1) k = 0) => ?_⟩)
    · rw [q3] at c5
      rw [if_pos ⟨c4, c5⟩] at hk
      exact hC _ _ _ _ _ (c_worth1 (sx_kk q4 hk))
    · rw [q3] at c5
      rw [if_neg (fun h => h.2 c5)] at hk; exact hk
  · rw [g0] at c3
    rw [if_pos c3] at hk; exact hk
theorem c1_rest_66 {v : Int32} (hl : gl H N W Sz Rw I) (hk : K (some (.int (gs_rest H N (nI 1) v))) I (sx_run rw m ln)) : sx_C 95 (d + 3) [.ref 15, .int (nI 1), .int v] I (sx_run rw m ln) K := by
  have hsl : ¬ gs_in (nI 1) 0 (nI 4) = 0 := gs_in_c (by omega) (by omega)
  obtain ⟨g0, g1, g2, g3⟩ := hl 1 (by omega)
  have g0 : I 66 0 = H 1 := g0
  unfold gs_rest at hk
  rw [if_neg hsl, show (nI 1).toNatClampNeg = 1 from nI_clamp (by omega)] at hk
  refine sx_enter (by decide +kernel) (Nat.le_of_ble_eq_true rfl) (sx_go m95 100 rfl (fun VV CC hV hC => ?_))
  refine hC _ _ _ _ _ (c_isSlot1 ⟨fun _ => ⟨1, ⟨rfl, by omega⟩, fun b (eb : some 66 = some b) => ?_, fun (eb : some 66 = none) => by cases eb⟩, fun (c1 : gs_in (nI 1) 0 (nI 4) = 0) => absurd c1 hsl⟩)
  cases eb
  refine ⟨fun (c3 : ¬ I 66 0 = 0) => ⟨1, ⟨rfl, by omega⟩, fun b (eb : some 66 = some b) => ?_, fun (eb : some 66 = none) => by cases eb⟩, fun (c3 : I 66 0 = 0) => ?_⟩
  · cases eb
    rw [g0] at c3
    refine ⟨fun (c4 : I 66 0 = nI 3) => ?_, fun (c4 : ¬ I 66 0 = nI 3) => ?_⟩
    · rw [g0] at c4
      rw [if_neg (fun h => h c4)] at hk
      refine ⟨fun (c5 : ¬ v = 0) => ⟨1, ⟨rfl, by omega⟩, fun b (eb : some 66 = some b) => ?_, fun (eb : some 66 = none) => by cases eb⟩, fun (c5 : v = 0) => ?_⟩
      · cases eb
        rw [if_neg c5] at hk
        refine ⟨c5, sx_kk ?_ hk⟩
        have g3 : I 66 3 = N 1 := g3 c4
        rw [g3]; rfl
      · rw [if_pos c5] at hk; exact hk
    · rw [g0] at c4
      rw [if_pos c4, if_neg c3] at hk; exact hk
  · rw [g0] at c3
    rw [if_pos (by rw [c3]; decide +kernel), if_pos c3] at hk; exact hk
theorem c1_item_66 {p : Int32} (hl : gl H N W Sz Rw I) (ho : gl_ok H Sz) (hk : K (some (.int (gs_item H Sz Rw (nI 1) p))) I (sx_run rw m ln)) : sx_C 94 (d + 3) [.ref 15, .int (nI 1), .int p] I (sx_run rw m ln) K := by
  have hsl : ¬ gs_in (nI 1) 0 (nI 4) = 0 := gs_in_c (by omega) (by omega)
  obtain ⟨g0, g1, g2, g3⟩ := hl 1 (by omega)
  have g0 : I 66 0 = H 1 := g0
  obtain ⟨-, z, oz, oz24⟩ := ho 1 (by omega)
  unfold gs_item at hk
  rw [if_neg hsl, show (nI 1).toNatClampNeg = 1 from nI_clamp (by omega)] at hk
  refine sx_enter (by decide +kernel) (Nat.le_of_ble_eq_true rfl) (sx_go m94 100 rfl (fun VV CC hV hC => ?_))
  refine hC _ _ _ _ _ (c_isSlot1 ⟨fun _ => ⟨1, ⟨rfl, by omega⟩, fun b (eb : some 66 = some b) => ?_, fun (eb : some 66 = none) => by cases eb⟩, fun (c1 : gs_in (nI 1) 0 (nI 4) = 0) => absurd c1 hsl⟩)
  cases eb
  refine ⟨fun (c3 : ¬ I 66 0 = 0) => ⟨1, ⟨rfl, by omega⟩, fun b (eb : some 66 = some b) => ?_, fun (eb : some 66 = none) => by cases eb⟩, fun (c3 : I 66 0 = 0) => ?_⟩
  · cases eb
    rw [g0] at c3
    refine ⟨fun (c4 : I 66 0 = nI 2) => ⟨1, ⟨rfl, by omega⟩, fun b (eb : some 66 = some b) => ?_, fun (eb : some 66 = none) => by cases eb⟩, fun (c4 : ¬ I 66 0 = nI 2) => ?_⟩
    · cases eb
      rw [g0] at c4
      obtain ⟨q1, q2⟩ := g2 c4
      have q1 : I 67 1 = Sz 1 := q1
      rw [if_neg (fun h => h c4)] at hk
      refine hC _ _ _ _ _ (c_isWithin ⟨fun (c5 : ¬ gs_in p (nI 0) (I 67 1 - nI 1) = 0) => ?_, fun (c5 : gs_in p (nI 0) (I 67 1 - nI 1) = 0) => ?_⟩)
      · rw [q1] at c5
        rw [if_neg (show ¬ gs_in p 0 (Sz 1 - nI 1) = 0 from c5)] at hk
        obtain ⟨i, rfl, hi⟩ := gs_place oz (by omega) c5
        have q2 : I 68 i = Rw (24 * 1 + i) := q2 i (by omega)
        rw [nI_clamp (by omega)] at hk
        refine hC _ _ _ _ _ (c_isNum_67 rfl (by omega) (fun c6 => ⟨fun _ => ?_, fun (q : ¬ nI 0 = 0) => absurd rfl q⟩) (fun c6 => ⟨fun (q : nI 1 = 0) => absurd q (by decide +kernel), fun _ => ⟨i, ⟨rfl, by omega⟩, ?_⟩⟩))
        · rw [if_pos (q2.symm.trans c6)] at hk; exact hk
        · rw [if_neg (fun h => c6 (q2.trans h))] at hk; exact sx_kk q2 hk
      · rw [q1] at c5
        rw [if_pos (show gs_in p 0 (Sz 1 - nI 1) = 0 from c5)] at hk; exact hk
    · rw [g0] at c4
      rw [if_pos c4, if_neg c3] at hk; exact hk
  · rw [g0] at c3
    rw [if_pos (by rw [c3]; decide +kernel), if_pos c3] at hk; exact hk
theorem c1_ask_69 {k : Int32} (hl : gl H N W Sz Rw I) (hk : K (some (.int (gs_askA H N W (nI 2) k))) I (sx_run rw m ln)) : sx_C 93 (d + 3) [.ref 15, .int (nI 2), .int k] I (sx_run rw m ln) K := by
  have hsl : ¬ gs_in (nI 2) 0 (nI 4) = 0 := gs_in_c (by omega) (by omega)
  obtain ⟨g0, g1, g2, g3⟩ := hl 2 (by omega)
  have g0 : I 69 0 = H 2 := g0
  unfold gs_askA at hk
  rw [show (nI 2).toNatClampNeg = 2 from nI_clamp (by omega)] at hk
  refine sx_enter (by decide +kernel) (Nat.le_of_ble_eq_true rfl) (sx_go m93 100 rfl (fun VV CC hV hC => ?_))
  refine hC _ _ _ _ _ (c_isSlot1 ⟨fun (c1 : gs_in (nI 2) 0 (nI 4) = 0) => absurd c1 hsl, fun _ => hC _ _ _ _ _ (c_isKind ⟨fun (c2 : ¬ gs_in k 0 (nI 5) = 0) => ⟨2, ⟨rfl, by omega⟩, fun b (eb : some 69 = some b) => ?_, fun (eb : some 69 = none) => by cases eb⟩, fun (c2 : gs_in k 0 (nI 5) = 0) => by rw [if_pos (Or.inr c2)] at hk; exact hk⟩)⟩)
  cases eb
  rw [if_neg (fun h => h.elim hsl c2)] at hk
  refine ⟨fun (c3 : ¬ I 69 0 = 0) => ⟨fun (c4 : ¬ I 69 0 = nI 1) => ?_, fun (c4 : I 69 0 = nI 1) => ?_⟩, fun (c3 : I 69 0 = 0) => ?_⟩
  · rw [g0] at c3 c4
    rw [if_neg c3, if_neg (fun h => c4 h.1)] at hk; exact hk
  · rw [g0] at c3 c4
    obtain ⟨⟨q, q1, q2⟩, q3, q4⟩ := g1 c4
    have q3 : I 69 1 = N 2 := q3
    obtain ⟨o, ho, -, ho5⟩ := gs_in_nat (a := 0) (by omega) c2 (by decide)
    rw [if_neg c3] at hk
    refine hC _ _ _ _ _ (c_isUnder (q3.trans q1) ho q2 (by omega) ⟨fun (c5 : ¬ gs_isOf (I 69 1) k = 0) => ?_, fun (c5 : gs_isOf (I 69 1) k = 0) => ?_⟩)
    · rw [q3] at c5
      rw [if_pos ⟨c4, c5⟩] at hk
      exact hC _ _ _ _ _ (c_worth1 (sx_kk q4 hk))
    · rw [q3] at c5
      rw [if_neg (fun h => h.2 c5)] at hk; exact hk
  · rw [g0] at c3
    rw [if_pos c3] at hk; exact hk
theorem c1_rest_69 {v : Int32} (hl : gl H N W Sz Rw I) (hk : K (some (.int (gs_rest H N (nI 2) v))) I (sx_run rw m ln)) : sx_C 95 (d + 3) [.ref 15, .int (nI 2), .int v] I (sx_run rw m ln) K := by
  have hsl : ¬ gs_in (nI 2) 0 (nI 4) = 0 := gs_in_c (by omega) (by omega)
  obtain ⟨g0, g1, g2, g3⟩ := hl 2 (by omega)
  have g0 : I 69 0 = H 2 := g0
  unfold gs_rest at hk
  rw [if_neg hsl, show (nI 2).toNatClampNeg = 2 from nI_clamp (by omega)] at hk
  refine sx_enter (by decide +kernel) (Nat.le_of_ble_eq_true rfl) (sx_go m95 100 rfl (fun VV CC hV hC => ?_))
  refine hC _ _ _ _ _ (c_isSlot1 ⟨fun _ => ⟨2, ⟨rfl, by omega⟩, fun b (eb : some 69 = some b) => ?_, fun (eb : some 69 = none) => by cases eb⟩, fun (c1 : gs_in (nI 2) 0 (nI 4) = 0) => absurd c1 hsl⟩)
  cases eb
  refine ⟨fun (c3 : ¬ I 69 0 = 0) => ⟨2, ⟨rfl, by omega⟩, fun b (eb : some 69 = some b) => ?_, fun (eb : some 69 = none) => by cases eb⟩, fun (c3 : I 69 0 = 0) => ?_⟩
  · cases eb
    rw [g0] at c3
    refine ⟨fun (c4 : I 69 0 = nI 3) => ?_, fun (c4 : ¬ I 69 0 = nI 3) => ?_⟩
    · rw [g0] at c4
      rw [if_neg (fun h => h c4)] at hk
      refine ⟨fun (c5 : ¬ v = 0) => ⟨2, ⟨rfl, by omega⟩, fun b (eb : some 69 = some b) => ?_, fun (eb : some 69 = none) => by cases eb⟩, fun (c5 : v = 0) => ?_⟩
      · cases eb
        rw [if_neg c5] at hk
        refine ⟨c5, sx_kk ?_ hk⟩
        have g3 : I 69 3 = N 2 := g3 c4
        rw [g3]; rfl
      · rw [if_pos c5] at hk; exact hk
    · rw [g0] at c4
      rw [if_pos c4, if_neg c3] at hk; exact hk
  · rw [g0] at c3
    rw [if_pos (by rw [c3]; decide +kernel), if_pos c3] at hk; exact hk
theorem c1_item_69 {p : Int32} (hl : gl H N W Sz Rw I) (ho : gl_ok H Sz) (hk : K (some (.int (gs_item H Sz Rw (nI 2) p))) I (sx_run rw m ln)) : sx_C 94 (d + 3) [.ref 15, .int (nI 2), .int p] I (sx_run rw m ln) K := by
  have hsl : ¬ gs_in (nI 2) 0 (nI 4) = 0 := gs_in_c (by omega) (by omega)
  obtain ⟨g0, g1, g2, g3⟩ := hl 2 (by omega)
  have g0 : I 69 0 = H 2 := g0
  obtain ⟨-, z, oz, oz24⟩ := ho 2 (by omega)
  unfold gs_item at hk
  rw [if_neg hsl, show (nI 2).toNatClampNeg = 2 from nI_clamp (by omega)] at hk
  refine sx_enter (by decide +kernel) (Nat.le_of_ble_eq_true rfl) (sx_go m94 100 rfl (fun VV CC hV hC => ?_))
  refine hC _ _ _ _ _ (c_isSlot1 ⟨fun _ => ⟨2, ⟨rfl, by omega⟩, fun b (eb : some 69 = some b) => ?_, fun (eb : some 69 = none) => by cases eb⟩, fun (c1 : gs_in (nI 2) 0 (nI 4) = 0) => absurd c1 hsl⟩)
  cases eb
  refine ⟨fun (c3 : ¬ I 69 0 = 0) => ⟨2, ⟨rfl, by omega⟩, fun b (eb : some 69 = some b) => ?_, fun (eb : some 69 = none) => by cases eb⟩, fun (c3 : I 69 0 = 0) => ?_⟩
  · cases eb
    rw [g0] at c3
    refine ⟨fun (c4 : I 69 0 = nI 2) => ⟨2, ⟨rfl, by omega⟩, fun b (eb : some 69 = some b) => ?_, fun (eb : some 69 = none) => by cases eb⟩, fun (c4 : ¬ I 69 0 = nI 2) => ?_⟩
    · cases eb
      rw [g0] at c4
      obtain ⟨q1, q2⟩ := g2 c4
      have q1 : I 70 1 = Sz 2 := q1
      rw [if_neg (fun h => h c4)] at hk
      refine hC _ _ _ _ _ (c_isWithin ⟨fun (c5 : ¬ gs_in p (nI 0) (I 70 1 - nI 1) = 0) => ?_, fun (c5 : gs_in p (nI 0) (I 70 1 - nI 1) = 0) => ?_⟩)
      · rw [q1] at c5
        rw [if_neg (show ¬ gs_in p 0 (Sz 2 - nI 1) = 0 from c5)] at hk
        obtain ⟨i, rfl, hi⟩ := gs_place oz (by omega) c5
        have q2 : I 71 i = Rw (24 * 2 + i) := q2 i (by omega)
        rw [nI_clamp (by omega)] at hk
        refine hC _ _ _ _ _ (c_isNum_70 rfl (by omega) (fun c6 => ⟨fun _ => ?_, fun (q : ¬ nI 0 = 0) => absurd rfl q⟩) (fun c6 => ⟨fun (q : nI 1 = 0) => absurd q (by decide +kernel), fun _ => ⟨i, ⟨rfl, by omega⟩, ?_⟩⟩))
        · rw [if_pos (q2.symm.trans c6)] at hk; exact hk
        · rw [if_neg (fun h => c6 (q2.trans h))] at hk; exact sx_kk q2 hk
      · rw [q1] at c5
        rw [if_pos (show gs_in p 0 (Sz 2 - nI 1) = 0 from c5)] at hk; exact hk
    · rw [g0] at c4
      rw [if_pos c4, if_neg c3] at hk; exact hk
  · rw [g0] at c3
    rw [if_pos (by rw [c3]; decide +kernel), if_pos c3] at hk; exact hk
theorem c1_ask_72 {k : Int32} (hl : gl H N W Sz Rw I) (hk : K (some (.int (gs_askA H N W (nI 3) k))) I (sx_run rw m ln)) : sx_C 93 (d + 3) [.ref 15, .int (nI 3), .int k] I (sx_run rw m ln) K := by
  have hsl : ¬ gs_in (nI 3) 0 (nI 4) = 0 := gs_in_c (by omega) (by omega)
  obtain ⟨g0, g1, g2, g3⟩ := hl 3 (by omega)
  have g0 : I 72 0 = H 3 := g0
  unfold gs_askA at hk
  rw [show (nI 3).toNatClampNeg = 3 from nI_clamp (by omega)] at hk
  refine sx_enter (by decide +kernel) (Nat.le_of_ble_eq_true rfl) (sx_go m93 100 rfl (fun VV CC hV hC => ?_))
  refine hC _ _ _ _ _ (c_isSlot1 ⟨fun (c1 : gs_in (nI 3) 0 (nI 4) = 0) => absurd c1 hsl, fun _ => hC _ _ _ _ _ (c_isKind ⟨fun (c2 : ¬ gs_in k 0 (nI 5) = 0) => ⟨3, ⟨rfl, by omega⟩, fun b (eb : some 72 = some b) => ?_, fun (eb : some 72 = none) => by cases eb⟩, fun (c2 : gs_in k 0 (nI 5) = 0) => by rw [if_pos (Or.inr c2)] at hk; exact hk⟩)⟩)
  cases eb
  rw [if_neg (fun h => h.elim hsl c2)] at hk
  refine ⟨fun (c3 : ¬ I 72 0 = 0) => ⟨fun (c4 : ¬ I 72 0 = nI 1) => ?_, fun (c4 : I 72 0 = nI 1) => ?_⟩, fun (c3 : I 72 0 = 0) => ?_⟩
  · rw [g0] at c3 c4
    rw [if_neg c3, if_neg (fun h => c4 h.1)] at hk; exact hk
  · rw [g0] at c3 c4
    obtain ⟨⟨q, q1, q2⟩, q3, q4⟩ := g1 c4
    have q3 : I 72 1 = N 3 := q3
    obtain ⟨o, ho, -, ho5⟩ := gs_in_nat (a := 0) (by omega) c2 (by decide)
    rw [if_neg c3] at hk
    refine hC _ _ _ _ _ (c_isUnder (q3.trans q1) ho q2 (by omega) ⟨fun (c5 : ¬ gs_isOf (I 72 1) k = 0) => ?_, fun (c5 : gs_isOf (I 72 1) k = 0) => ?_⟩)
    · rw [q3] at c5
      rw [if_pos ⟨c4, c5⟩] at hk
      exact hC _ _ _ _ _ (c_worth1 (sx_kk q4 hk))
    · rw [q3] at c5
      rw [if_neg (fun h => h.2 c5)] at hk; exact hk
  · rw [g0] at c3
    rw [if_pos c3] at hk; exact hk
theorem c1_rest_72 {v : Int32} (hl : gl H N W Sz Rw I) (hk : K (some (.int (gs_rest H N (nI 3) v))) I (sx_run rw m ln)) : sx_C 95 (d + 3) [.ref 15, .int (nI 3), .int v] I (sx_run rw m ln) K := by
  have hsl : ¬ gs_in (nI 3) 0 (nI 4) = 0 := gs_in_c (by omega) (by omega)
  obtain ⟨g0, g1, g2, g3⟩ := hl 3 (by omega)
  have g0 : I 72 0 = H 3 := g0
  unfold gs_rest at hk
  rw [if_neg hsl, show (nI 3).toNatClampNeg = 3 from nI_clamp (by omega)] at hk
  refine sx_enter (by decide +kernel) (Nat.le_of_ble_eq_true rfl) (sx_go m95 100 rfl (fun VV CC hV hC => ?_))
  refine hC _ _ _ _ _ (c_isSlot1 ⟨fun _ => ⟨3, ⟨rfl, by omega⟩, fun b (eb : some 72 = some b) => ?_, fun (eb : some 72 = none) => by cases eb⟩, fun (c1 : gs_in (nI 3) 0 (nI 4) = 0) => absurd c1 hsl⟩)
  cases eb
  refine ⟨fun (c3 : ¬ I 72 0 = 0) => ⟨3, ⟨rfl, by omega⟩, fun b (eb : some 72 = some b) => ?_, fun (eb : some 72 = none) => by cases eb⟩, fun (c3 : I 72 0 = 0) => ?_⟩
  · cases eb
    rw [g0] at c3
    refine ⟨fun (c4 : I 72 0 = nI 3) => ?_, fun (c4 : ¬ I 72 0 = nI 3) => ?_⟩
    · rw [g0] at c4
      rw [if_neg (fun h => h c4)] at hk
      refine ⟨fun (c5 : ¬ v = 0) => ⟨3, ⟨rfl, by omega⟩, fun b (eb : some 72 = some b) => ?_, fun (eb : some 72 = none) => by cases eb⟩, fun (c5 : v = 0) => ?_⟩
      · cases eb
        rw [if_neg c5] at hk
        refine ⟨c5, sx_kk ?_ hk⟩
        have g3 : I 72 3 = N 3 := g3 c4
        rw [g3]; rfl
      · rw [if_pos c5] at hk; exact hk
    · rw [g0] at c4
      rw [if_pos c4, if_neg c3] at hk; exact hk
  · rw [g0] at c3
    rw [if_pos (by rw [c3]; decide +kernel), if_pos c3] at hk; exact hk
theorem c1_item_72 {p : Int32} (hl : gl H N W Sz Rw I) (ho : gl_ok H Sz) (hk : K (some (.int (gs_item H Sz Rw (nI 3) p))) I (sx_run rw m ln)) : sx_C 94 (d + 3) [.ref 15, .int (nI 3), .int p] I (sx_run rw m ln) K := by
  have hsl : ¬ gs_in (nI 3) 0 (nI 4) = 0 := gs_in_c (by omega) (by omega)
  obtain ⟨g0, g1, g2, g3⟩ := hl 3 (by omega)
  have g0 : I 72 0 = H 3 := g0
  obtain ⟨-, z, oz, oz24⟩ := ho 3 (by omega)
  unfold gs_item at hk
  rw [if_neg hsl, show (nI 3).toNatClampNeg = 3 from nI_clamp (by omega)] at hk
  refine sx_enter (by decide +kernel) (Nat.le_of_ble_eq_true rfl) (sx_go m94 100 rfl (fun VV CC hV hC => ?_))
  refine hC _ _ _ _ _ (c_isSlot1 ⟨fun _ => ⟨3, ⟨rfl, by omega⟩, fun b (eb : some 72 = some b) => ?_, fun (eb : some 72 = none) => by cases eb⟩, fun (c1 : gs_in (nI 3) 0 (nI 4) = 0) => absurd c1 hsl⟩)
  cases eb
  refine ⟨fun (c3 : ¬ I 72 0 = 0) => ⟨3, ⟨rfl, by omega⟩, fun b (eb : some 72 = some b) => ?_, fun (eb : some 72 = none) => by cases eb⟩, fun (c3 : I 72 0 = 0) => ?_⟩
  · cases eb
    rw [g0] at c3
    refine ⟨fun (c4 : I 72 0 = nI 2) => ⟨3, ⟨rfl, by omega⟩, fun b (eb : some 72 = some b) => ?_, fun (eb : some 72 = none) => by cases eb⟩, fun (c4 : ¬ I 72 0 = nI 2) => ?_⟩
    · cases eb
      rw [g0] at c4
      obtain ⟨q1, q2⟩ := g2 c4
      have q1 : I 73 1 = Sz 3 := q1
      rw [if_neg (fun h => h c4)] at hk
      refine hC _ _ _ _ _ (c_isWithin ⟨fun (c5 : ¬ gs_in p (nI 0) (I 73 1 - nI 1) = 0) => ?_, fun (c5 : gs_in p (nI 0) (I 73 1 - nI 1) = 0) => ?_⟩)
      · rw [q1] at c5
        rw [if_neg (show ¬ gs_in p 0 (Sz 3 - nI 1) = 0 from c5)] at hk
        obtain ⟨i, rfl, hi⟩ := gs_place oz (by omega) c5
        have q2 : I 74 i = Rw (24 * 3 + i) := q2 i (by omega)
        rw [nI_clamp (by omega)] at hk
        refine hC _ _ _ _ _ (c_isNum_73 rfl (by omega) (fun c6 => ⟨fun _ => ?_, fun (q : ¬ nI 0 = 0) => absurd rfl q⟩) (fun c6 => ⟨fun (q : nI 1 = 0) => absurd q (by decide +kernel), fun _ => ⟨i, ⟨rfl, by omega⟩, ?_⟩⟩))
        · rw [if_pos (q2.symm.trans c6)] at hk; exact hk
        · rw [if_neg (fun h => c6 (q2.trans h))] at hk; exact sx_kk q2 hk
      · rw [q1] at c5
        rw [if_pos (show gs_in p 0 (Sz 3 - nI 1) = 0 from c5)] at hk; exact hk
    · rw [g0] at c4
      rw [if_pos c4, if_neg c3] at hk; exact hk
  · rw [g0] at c3
    rw [if_pos (by rw [c3]; decide +kernel), if_pos c3] at hk; exact hk
theorem c1_ask_75 {k : Int32} (hl : gl H N W Sz Rw I) (hk : K (some (.int (gs_askA H N W (nI 4) k))) I (sx_run rw m ln)) : sx_C 93 (d + 3) [.ref 15, .int (nI 4), .int k] I (sx_run rw m ln) K := by
  have hsl : ¬ gs_in (nI 4) 0 (nI 4) = 0 := gs_in_c (by omega) (by omega)
  obtain ⟨g0, g1, g2, g3⟩ := hl 4 (by omega)
  have g0 : I 75 0 = H 4 := g0
  unfold gs_askA at hk
  rw [show (nI 4).toNatClampNeg = 4 from nI_clamp (by omega)] at hk
  refine sx_enter (by decide +kernel) (Nat.le_of_ble_eq_true rfl) (sx_go m93 100 rfl (fun VV CC hV hC => ?_))
  refine hC _ _ _ _ _ (c_isSlot1 ⟨fun (c1 : gs_in (nI 4) 0 (nI 4) = 0) => absurd c1 hsl, fun _ => hC _ _ _ _ _ (c_isKind ⟨fun (c2 : ¬ gs_in k 0 (nI 5) = 0) => ⟨4, ⟨rfl, by omega⟩, fun b (eb : some 75 = some b) => ?_, fun (eb : some 75 = none) => by cases eb⟩, fun (c2 : gs_in k 0 (nI 5) = 0) => by rw [if_pos (Or.inr c2)] at hk; exact hk⟩)⟩)
  cases eb
  rw [if_neg (fun h => h.elim hsl c2)] at hk
  refine ⟨fun (c3 : ¬ I 75 0 = 0) => ⟨fun (c4 : ¬ I 75 0 = nI 1) => ?_, fun (c4 : I 75 0 = nI 1) => ?_⟩, fun (c3 : I 75 0 = 0) => ?_⟩
  · rw [g0] at c3 c4
    rw [if_neg c3, if_neg (fun h => c4 h.1)] at hk; exact hk
  · rw [g0] at c3 c4
    obtain ⟨⟨q, q1, q2⟩, q3, q4⟩ := g1 c4
    have q3 : I 75 1 = N 4 := q3
    obtain ⟨o, ho, -, ho5⟩ := gs_in_nat (a := 0) (by omega) c2 (by decide)
    rw [if_neg c3] at hk
    refine hC _ _ _ _ _ (c_isUnder (q3.trans q1) ho q2 (by omega) ⟨fun (c5 : ¬ gs_isOf (I 75 1) k = 0) => ?_, fun (c5 : gs_isOf (I 75 1) k = 0) => ?_⟩)
    · rw [q3] at c5
      rw [if_pos ⟨c4, c5⟩] at hk
      exact hC _ _ _ _ _ (c_worth1 (sx_kk q4 hk))
    · rw [q3] at c5
      rw [if_neg (fun h => h.2 c5)] at hk; exact hk
  · rw [g0] at c3
    rw [if_pos c3] at hk; exact hk
theorem c1_rest_75 {v : Int32} (hl : gl H N W Sz Rw I) (hk : K (some (.int (gs_rest H N (nI 4) v))) I (sx_run rw m ln)) : sx_C 95 (d + 3) [.ref 15, .int (nI 4), .int v] I (sx_run rw m ln) K := by
  have hsl : ¬ gs_in (nI 4) 0 (nI 4) = 0 := gs_in_c (by omega) (by omega)
  obtain ⟨g0, g1, g2, g3⟩ := hl 4 (by omega)
  have g0 : I 75 0 = H 4 := g0
  unfold gs_rest at hk
  rw [if_neg hsl, show (nI 4).toNatClampNeg = 4 from nI_clamp (by omega)] at hk
  refine sx_enter (by decide +kernel) (Nat.le_of_ble_eq_true rfl) (sx_go m95 100 rfl (fun VV CC hV hC => ?_))
  refine hC _ _ _ _ _ (c_isSlot1 ⟨fun _ => ⟨4, ⟨rfl, by omega⟩, fun b (eb : some 75 = some b) => ?_, fun (eb : some 75 = none) => by cases eb⟩, fun (c1 : gs_in (nI 4) 0 (nI 4) = 0) => absurd c1 hsl⟩)
  cases eb
  refine ⟨fun (c3 : ¬ I 75 0 = 0) => ⟨4, ⟨rfl, by omega⟩, fun b (eb : some 75 = some b) => ?_, fun (eb : some 75 = none) => by cases eb⟩, fun (c3 : I 75 0 = 0) => ?_⟩
  · cases eb
    rw [g0] at c3
    refine ⟨fun (c4 : I 75 0 = nI 3) => ?_, fun (c4 : ¬ I 75 0 = nI 3) => ?_⟩
    · rw [g0] at c4
      rw [if_neg (fun h => h c4)] at hk
      refine ⟨fun (c5 : ¬ v = 0) => ⟨4, ⟨rfl, by omega⟩, fun b (eb : some 75 = some b) => ?_, fun (eb : some 75 = none) => by cases eb⟩, fun (c5 : v = 0) => ?_⟩
      · cases eb
        rw [if_neg c5] at hk
        refine ⟨c5, sx_kk ?_ hk⟩
        have g3 : I 75 3 = N 4 := g3 c4
        rw [g3]; rfl
      · rw [if_pos c5] at hk; exact hk
    · rw [g0] at c4
      rw [if_pos c4, if_neg c3] at hk; exact hk
  · rw [g0] at c3
    rw [if_pos (by rw [c3]; decide +kernel), if_pos c3] at hk; exact hk
theorem c1_item_75 {p : Int32} (hl : gl H N W Sz Rw I) (ho : gl_ok H Sz) (hk : K (some (.int (gs_item H Sz Rw (nI 4) p))) I (sx_run rw m ln)) : sx_C 94 (d + 3) [.ref 15, .int (nI 4), .int p] I (sx_run rw m ln) K := by
  have hsl : ¬ gs_in (nI 4) 0 (nI 4) = 0 := gs_in_c (by omega) (by omega)
  obtain ⟨g0, g1, g2, g3⟩ := hl 4 (by omega)
  have g0 : I 75 0 = H 4 := g0
  obtain ⟨-, z, oz, oz24⟩ := ho 4 (by omega)
  unfold gs_item at hk
  rw [if_neg hsl, show (nI 4).toNatClampNeg = 4 from nI_clamp (by omega)] at hk
  refine sx_enter (by decide +kernel) (Nat.le_of_ble_eq_true rfl) (sx_go m94 100 rfl (fun VV CC hV hC => ?_))
  refine hC _ _ _ _ _ (c_isSlot1 ⟨fun _ => ⟨4, ⟨rfl, by omega⟩, fun b (eb : some 75 = some b) => ?_, fun (eb : some 75 = none) => by cases eb⟩, fun (c1 : gs_in (nI 4) 0 (nI 4) = 0) => absurd c1 hsl⟩)
  cases eb
  refine ⟨fun (c3 : ¬ I 75 0 = 0) => ⟨4, ⟨rfl, by omega⟩, fun b (eb : some 75 = some b) => ?_, fun (eb : some 75 = none) => by cases eb⟩, fun (c3 : I 75 0 = 0) => ?_⟩
  · cases eb
    rw [g0] at c3
    refine ⟨fun (c4 : I 75 0 = nI 2) => ⟨4, ⟨rfl, by omega⟩, fun b (eb : some 75 = some b) => ?_, fun (eb : some 75 = none) => by cases eb⟩, fun (c4 : ¬ I 75 0 = nI 2) => ?_⟩
    · cases eb
      rw [g0] at c4
      obtain ⟨q1, q2⟩ := g2 c4
      have q1 : I 76 1 = Sz 4 := q1
      rw [if_neg (fun h => h c4)] at hk
      refine hC _ _ _ _ _ (c_isWithin ⟨fun (c5 : ¬ gs_in p (nI 0) (I 76 1 - nI 1) = 0) => ?_, fun (c5 : gs_in p (nI 0) (I 76 1 - nI 1) = 0) => ?_⟩)
      · rw [q1] at c5
        rw [if_neg (show ¬ gs_in p 0 (Sz 4 - nI 1) = 0 from c5)] at hk
        obtain ⟨i, rfl, hi⟩ := gs_place oz (by omega) c5
        have q2 : I 77 i = Rw (24 * 4 + i) := q2 i (by omega)
        rw [nI_clamp (by omega)] at hk
        refine hC _ _ _ _ _ (c_isNum_76 rfl (by omega) (fun c6 => ⟨fun _ => ?_, fun (q : ¬ nI 0 = 0) => absurd rfl q⟩) (fun c6 => ⟨fun (q : nI 1 = 0) => absurd q (by decide +kernel), fun _ => ⟨i, ⟨rfl, by omega⟩, ?_⟩⟩))
        · rw [if_pos (q2.symm.trans c6)] at hk; exact hk
        · rw [if_neg (fun h => c6 (q2.trans h))] at hk; exact sx_kk q2 hk
      · rw [q1] at c5
        rw [if_pos (show gs_in p 0 (Sz 4 - nI 1) = 0 from c5)] at hk; exact hk
    · rw [g0] at c4
      rw [if_pos c4, if_neg c3] at hk; exact hk
  · rw [g0] at c3
    rw [if_pos (by rw [c3]; decide +kernel), if_pos c3] at hk; exact hk
theorem c_shbec_64_55 (hk : ∀ J, (∀ q, q ≠ 64 → q ≠ 65 → J q = I q) → J 64 1 = I 55 1 → (∀ i, i < 24 → J 65 i = I 56 i) → K none J (sx_run rw m ln)) : sx_C 53 (d + 1) [.ref 64, .ref 55] I (sx_run rw m ln) K := by
  refine sx_enter (by decide +kernel) (Nat.le_of_ble_eq_true rfl) (sx_go m53 100 rfl (fun VV CC hV hC => ?_))
  refine ⟨24, 0, 0, ⟨rfl, rfl, rfl, by omega, by omega⟩, Nat.le_of_ble_eq_true rfl, ?_⟩
  refine hk _ (fun q h1 h2 => ?_) ?_ (fun i hi => ?_)
  · rw [sx_up_ne h2, sx_up_ne h1, sx_up_ne h1]
  · rw [sx_up_ne (by decide), sx_up_same, pk_us, sx_up_ne (by decide)]
  · rw [sx_up_same, va_cpy0 hi, sx_up_ne (by decide), sx_up_ne (by decide)]
theorem c_shbec_64_57 (hk : ∀ J, (∀ q, q ≠ 64 → q ≠ 65 → J q = I q) → J 64 1 = I 57 1 → (∀ i, i < 24 → J 65 i = I 58 i) → K none J (sx_run rw m ln)) : sx_C 53 (d + 1) [.ref 64, .ref 57] I (sx_run rw m ln) K := by
  refine sx_enter (by decide +kernel) (Nat.le_of_ble_eq_true rfl) (sx_go m53 100 rfl (fun VV CC hV hC => ?_))
  refine ⟨24, 0, 0, ⟨rfl, rfl, rfl, by omega, by omega⟩, Nat.le_of_ble_eq_true rfl, ?_⟩
  refine hk _ (fun q h1 h2 => ?_) ?_ (fun i hi => ?_)
  · rw [sx_up_ne h2, sx_up_ne h1, sx_up_ne h1]
  · rw [sx_up_ne (by decide), sx_up_same, pk_us, sx_up_ne (by decide)]
  · rw [sx_up_same, va_cpy0 hi, sx_up_ne (by decide), sx_up_ne (by decide)]
theorem c_shbec_64_59 (hk : ∀ J, (∀ q, q ≠ 64 → q ≠ 65 → J q = I q) → J 64 1 = I 59 1 → (∀ i, i < 24 → J 65 i = I 60 i) → K none J (sx_run rw m ln)) : sx_C 53 (d + 1) [.ref 64, .ref 59] I (sx_run rw m ln) K := by
  refine sx_enter (by decide +kernel) (Nat.le_of_ble_eq_true rfl) (sx_go m53 100 rfl (fun VV CC hV hC => ?_))
  refine ⟨24, 0, 0, ⟨rfl, rfl, rfl, by omega, by omega⟩, Nat.le_of_ble_eq_true rfl, ?_⟩
  refine hk _ (fun q h1 h2 => ?_) ?_ (fun i hi => ?_)
  · rw [sx_up_ne h2, sx_up_ne h1, sx_up_ne h1]
  · rw [sx_up_ne (by decide), sx_up_same, pk_us, sx_up_ne (by decide)]
  · rw [sx_up_same, va_cpy0 hi, sx_up_ne (by decide), sx_up_ne (by decide)]
theorem c_shbec_64_61 (hk : ∀ J, (∀ q, q ≠ 64 → q ≠ 65 → J q = I q) → J 64 1 = I 61 1 → (∀ i, i < 24 → J 65 i = I 62 i) → K none J (sx_run rw m ln)) : sx_C 53 (d + 1) [.ref 64, .ref 61] I (sx_run rw m ln) K := by
  refine sx_enter (by decide +kernel) (Nat.le_of_ble_eq_true rfl) (sx_go m53 100 rfl (fun VV CC hV hC => ?_))
  refine ⟨24, 0, 0, ⟨rfl, rfl, rfl, by omega, by omega⟩, Nat.le_of_ble_eq_true rfl, ?_⟩
  refine hk _ (fun q h1 h2 => ?_) ?_ (fun i hi => ?_)
  · rw [sx_up_ne h2, sx_up_ne h1, sx_up_ne h1]
  · rw [sx_up_ne (by decide), sx_up_same, pk_us, sx_up_ne (by decide)]
  · rw [sx_up_same, va_cpy0 hi, sx_up_ne (by decide), sx_up_ne (by decide)]
theorem c_shbec_67_55 (hk : ∀ J, (∀ q, q ≠ 67 → q ≠ 68 → J q = I q) → J 67 1 = I 55 1 → (∀ i, i < 24 → J 68 i = I 56 i) → K none J (sx_run rw m ln)) : sx_C 53 (d + 1) [.ref 67, .ref 55] I (sx_run rw m ln) K := by
  refine sx_enter (by decide +kernel) (Nat.le_of_ble_eq_true rfl) (sx_go m53 100 rfl (fun VV CC hV hC => ?_))
  refine ⟨24, 0, 0, ⟨rfl, rfl, rfl, by omega, by omega⟩, Nat.le_of_ble_eq_true rfl, ?_⟩
  refine hk _ (fun q h1 h2 => ?_) ?_ (fun i hi => ?_)
  · rw [sx_up_ne h2, sx_up_ne h1, sx_up_ne h1]
  · rw [sx_up_ne (by decide), sx_up_same, pk_us, sx_up_ne (by decide)]
  · rw [sx_up_same, va_cpy0 hi, sx_up_ne (by decide), sx_up_ne (by decide)]
theorem c_shbec_67_57 (hk : ∀ J, (∀ q, q ≠ 67 → q ≠ 68 → J q = I q) → J 67 1 = I 57 1 → (∀ i, i < 24 → J 68 i = I 58 i) → K none J (sx_run rw m ln)) : sx_C 53 (d + 1) [.ref 67, .ref 57] I (sx_run rw m ln) K := by
  refine sx_enter (by decide +kernel) (Nat.le_of_ble_eq_true rfl) (sx_go m53 100 rfl (fun VV CC hV hC => ?_))
  refine ⟨24, 0, 0, ⟨rfl, rfl, rfl, by omega, by omega⟩, Nat.le_of_ble_eq_true rfl, ?_⟩
  refine hk _ (fun q h1 h2 => ?_) ?_ (fun i hi => ?_)
  · rw [sx_up_ne h2, sx_up_ne h1, sx_up_ne h1]
  · rw [sx_up_ne (by decide), sx_up_same, pk_us, sx_up_ne (by decide)]
  · rw [sx_up_same, va_cpy0 hi, sx_up_ne (by decide), sx_up_ne (by decide)]
theorem c_shbec_67_59 (hk : ∀ J, (∀ q, q ≠ 67 → q ≠ 68 → J q = I q) → J 67 1 = I 59 1 → (∀ i, i < 24 → J 68 i = I 60 i) → K none J (sx_run rw m ln)) : sx_C 53 (d + 1) [.ref 67, .ref 59] I (sx_run rw m ln) K := by
  refine sx_enter (by decide +kernel) (Nat.le_of_ble_eq_true rfl) (sx_go m53 100 rfl (fun VV CC hV hC => ?_))
  refine ⟨24, 0, 0, ⟨rfl, rfl, rfl, by omega, by omega⟩, Nat.le_of_ble_eq_true rfl, ?_⟩
  refine hk _ (fun q h1 h2 => ?_) ?_ (fun i hi => ?_)
  · rw [sx_up_ne h2, sx_up_ne h1, sx_up_ne h1]
  · rw [sx_up_ne (by decide), sx_up_same, pk_us, sx_up_ne (by decide)]
  · rw [sx_up_same, va_cpy0 hi, sx_up_ne (by decide), sx_up_ne (by decide)]
theorem c_shbec_67_61 (hk : ∀ J, (∀ q, q ≠ 67 → q ≠ 68 → J q = I q) → J 67 1 = I 61 1 → (∀ i, i < 24 → J 68 i = I 62 i) → K none J (sx_run rw m ln)) : sx_C 53 (d + 1) [.ref 67, .ref 61] I (sx_run rw m ln) K := by
  refine sx_enter (by decide +kernel) (Nat.le_of_ble_eq_true rfl) (sx_go m53 100 rfl (fun VV CC hV hC => ?_))
  refine ⟨24, 0, 0, ⟨rfl, rfl, rfl, by omega, by omega⟩, Nat.le_of_ble_eq_true rfl, ?_⟩
  refine hk _ (fun q h1 h2 => ?_) ?_ (fun i hi => ?_)
  · rw [sx_up_ne h2, sx_up_ne h1, sx_up_ne h1]
  · rw [sx_up_ne (by decide), sx_up_same, pk_us, sx_up_ne (by decide)]
  · rw [sx_up_same, va_cpy0 hi, sx_up_ne (by decide), sx_up_ne (by decide)]
theorem c_shbec_70_55 (hk : ∀ J, (∀ q, q ≠ 70 → q ≠ 71 → J q = I q) → J 70 1 = I 55 1 → (∀ i, i < 24 → J 71 i = I 56 i) → K none J (sx_run rw m ln)) : sx_C 53 (d + 1) [.ref 70, .ref 55] I (sx_run rw m ln) K := by
  refine sx_enter (by decide +kernel) (Nat.le_of_ble_eq_true rfl) (sx_go m53 100 rfl (fun VV CC hV hC => ?_))
  refine ⟨24, 0, 0, ⟨rfl, rfl, rfl, by omega, by omega⟩, Nat.le_of_ble_eq_true rfl, ?_⟩
  refine hk _ (fun q h1 h2 => ?_) ?_ (fun i hi => ?_)
  · rw [sx_up_ne h2, sx_up_ne h1, sx_up_ne h1]
  · rw [sx_up_ne (by decide), sx_up_same, pk_us, sx_up_ne (by decide)]
  · rw [sx_up_same, va_cpy0 hi, sx_up_ne (by decide), sx_up_ne (by decide)]
theorem c_shbec_70_57 (hk : ∀ J, (∀ q, q ≠ 70 → q ≠ 71 → J q = I q) → J 70 1 = I 57 1 → (∀ i, i < 24 → J 71 i = I 58 i) → K none J (sx_run rw m ln)) : sx_C 53 (d + 1) [.ref 70, .ref 57] I (sx_run rw m ln) K := by
  refine sx_enter (by decide +kernel) (Nat.le_of_ble_eq_true rfl) (sx_go m53 100 rfl (fun VV CC hV hC => ?_))
  refine ⟨24, 0, 0, ⟨rfl, rfl, rfl, by omega, by omega⟩, Nat.le_of_ble_eq_true rfl, ?_⟩
  refine hk _ (fun q h1 h2 => ?_) ?_ (fun i hi => ?_)
  · rw [sx_up_ne h2, sx_up_ne h1, sx_up_ne h1]
  · rw [sx_up_ne (by decide), sx_up_same, pk_us, sx_up_ne (by decide)]
  · rw [sx_up_same, va_cpy0 hi, sx_up_ne (by decide), sx_up_ne (by decide)]
theorem c_shbec_70_59 (hk : ∀ J, (∀ q, q ≠ 70 → q ≠ 71 → J q = I q) → J 70 1 = I 59 1 → (∀ i, i < 24 → J 71 i = I 60 i) → K none J (sx_run rw m ln)) : sx_C 53 (d + 1) [.ref 70, .ref 59] I (sx_run rw m ln) K := by
  refine sx_enter (by decide +kernel) (Nat.le_of_ble_eq_true rfl) (sx_go m53 100 rfl (fun VV CC hV hC => ?_))
  refine ⟨24, 0, 0, ⟨rfl, rfl, rfl, by omega, by omega⟩, Nat.le_of_ble_eq_true rfl, ?_⟩
  refine hk _ (fun q h1 h2 => ?_) ?_ (fun i hi => ?_)
  · rw [sx_up_ne h2, sx_up_ne h1, sx_up_ne h1]
  · rw [sx_up_ne (by decide), sx_up_same, pk_us, sx_up_ne (by decide)]
  · rw [sx_up_same, va_cpy0 hi, sx_up_ne (by decide), sx_up_ne (by decide)]
theorem c_shbec_70_61 (hk : ∀ J, (∀ q, q ≠ 70 → q ≠ 71 → J q = I q) → J 70 1 = I 61 1 → (∀ i, i < 24 → J 71 i = I 62 i) → K none J (sx_run rw m ln)) : sx_C 53 (d + 1) [.ref 70, .ref 61] I (sx_run rw m ln) K := by
  refine sx_enter (by decide +kernel) (Nat.le_of_ble_eq_true rfl) (sx_go m53 100 rfl (fun VV CC hV hC => ?_))
  refine ⟨24, 0, 0, ⟨rfl, rfl, rfl, by omega, by omega⟩, Nat.le_of_ble_eq_true rfl, ?_⟩
  refine hk _ (fun q h1 h2 => ?_) ?_ (fun i hi => ?_)
  · rw [sx_up_ne h2, sx_up_ne h1, sx_up_ne h1]
  · rw [sx_up_ne (by decide), sx_up_same, pk_us, sx_up_ne (by decide)]
  · rw [sx_up_same, va_cpy0 hi, sx_up_ne (by decide), sx_up_ne (by decide)]
theorem c_shbec_73_55 (hk : ∀ J, (∀ q, q ≠ 73 → q ≠ 74 → J q = I q) → J 73 1 = I 55 1 → (∀ i, i < 24 → J 74 i = I 56 i) → K none J (sx_run rw m ln)) : sx_C 53 (d + 1) [.ref 73, .ref 55] I (sx_run rw m ln) K := by
  refine sx_enter (by decide +kernel) (Nat.le_of_ble_eq_true rfl) (sx_go m53 100 rfl (fun VV CC hV hC => ?_))
  refine ⟨24, 0, 0, ⟨rfl, rfl, rfl, by omega, by omega⟩, Nat.le_of_ble_eq_true rfl, ?_⟩
  refine hk _ (fun q h1 h2 => ?_) ?_ (fun i hi => ?_)
  · rw [sx_up_ne h2, sx_up_ne h1, sx_up_ne h1]
  · rw [sx_up_ne (by decide), sx_up_same, pk_us, sx_up_ne (by decide)]
  · rw [sx_up_same, va_cpy0 hi, sx_up_ne (by decide), sx_up_ne (by decide)]
theorem c_shbec_73_57 (hk : ∀ J, (∀ q, q ≠ 73 → q ≠ 74 → J q = I q) → J 73 1 = I 57 1 → (∀ i, i < 24 → J 74 i = I 58 i) → K none J (sx_run rw m ln)) : sx_C 53 (d + 1) [.ref 73, .ref 57] I (sx_run rw m ln) K := by
  refine sx_enter (by decide +kernel) (Nat.le_of_ble_eq_true rfl) (sx_go m53 100 rfl (fun VV CC hV hC => ?_))
  refine ⟨24, 0, 0, ⟨rfl, rfl, rfl, by omega, by omega⟩, Nat.le_of_ble_eq_true rfl, ?_⟩
  refine hk _ (fun q h1 h2 => ?_) ?_ (fun i hi => ?_)
  · rw [sx_up_ne h2, sx_up_ne h1, sx_up_ne h1]
  · rw [sx_up_ne (by decide), sx_up_same, pk_us, sx_up_ne (by decide)]
  · rw [sx_up_same, va_cpy0 hi, sx_up_ne (by decide), sx_up_ne (by decide)]
theorem c_shbec_73_59 (hk : ∀ J, (∀ q, q ≠ 73 → q ≠ 74 → J q = I q) → J 73 1 = I 59 1 → (∀ i, i < 24 → J 74 i = I 60 i) → K none J (sx_run rw m ln)) : sx_C 53 (d + 1) [.ref 73, .ref 59] I (sx_run rw m ln) K := by
  refine sx_enter (by decide +kernel) (Nat.le_of_ble_eq_true rfl) (sx_go m53 100 rfl (fun VV CC hV hC => ?_))
  refine ⟨24, 0, 0, ⟨rfl, rfl, rfl, by omega, by omega⟩, Nat.le_of_ble_eq_true rfl, ?_⟩
  refine hk _ (fun q h1 h2 => ?_) ?_ (fun i hi => ?_)
  · rw [sx_up_ne h2, sx_up_ne h1, sx_up_ne h1]
  · rw [sx_up_ne (by decide), sx_up_same, pk_us, sx_up_ne (by decide)]
  · rw [sx_up_same, va_cpy0 hi, sx_up_ne (by decide), sx_up_ne (by decide)]
theorem c_shbec_73_61 (hk : ∀ J, (∀ q, q ≠ 73 → q ≠ 74 → J q = I q) → J 73 1 = I 61 1 → (∀ i, i < 24 → J 74 i = I 62 i) → K none J (sx_run rw m ln)) : sx_C 53 (d + 1) [.ref 73, .ref 61] I (sx_run rw m ln) K := by
  refine sx_enter (by decide +kernel) (Nat.le_of_ble_eq_true rfl) (sx_go m53 100 rfl (fun VV CC hV hC => ?_))
  refine ⟨24, 0, 0, ⟨rfl, rfl, rfl, by omega, by omega⟩, Nat.le_of_ble_eq_true rfl, ?_⟩
  refine hk _ (fun q h1 h2 => ?_) ?_ (fun i hi => ?_)
  · rw [sx_up_ne h2, sx_up_ne h1, sx_up_ne h1]
  · rw [sx_up_ne (by decide), sx_up_same, pk_us, sx_up_ne (by decide)]
  · rw [sx_up_same, va_cpy0 hi, sx_up_ne (by decide), sx_up_ne (by decide)]
theorem c_shbec_76_55 (hk : ∀ J, (∀ q, q ≠ 76 → q ≠ 77 → J q = I q) → J 76 1 = I 55 1 → (∀ i, i < 24 → J 77 i = I 56 i) → K none J (sx_run rw m ln)) : sx_C 53 (d + 1) [.ref 76, .ref 55] I (sx_run rw m ln) K := by
  refine sx_enter (by decide +kernel) (Nat.le_of_ble_eq_true rfl) (sx_go m53 100 rfl (fun VV CC hV hC => ?_))
  refine ⟨24, 0, 0, ⟨rfl, rfl, rfl, by omega, by omega⟩, Nat.le_of_ble_eq_true rfl, ?_⟩
  refine hk _ (fun q h1 h2 => ?_) ?_ (fun i hi => ?_)
  · rw [sx_up_ne h2, sx_up_ne h1, sx_up_ne h1]
  · rw [sx_up_ne (by decide), sx_up_same, pk_us, sx_up_ne (by decide)]
  · rw [sx_up_same, va_cpy0 hi, sx_up_ne (by decide), sx_up_ne (by decide)]
theorem c_shbec_76_57 (hk : ∀ J, (∀ q, q ≠ 76 → q ≠ 77 → J q = I q) → J 76 1 = I 57 1 → (∀ i, i < 24 → J 77 i = I 58 i) → K none J (sx_run rw m ln)) : sx_C 53 (d + 1) [.ref 76, .ref 57] I (sx_run rw m ln) K := by
  refine sx_enter (by decide +kernel) (Nat.le_of_ble_eq_true rfl) (sx_go m53 100 rfl (fun VV CC hV hC => ?_))
  refine ⟨24, 0, 0, ⟨rfl, rfl, rfl, by omega, by omega⟩, Nat.le_of_ble_eq_true rfl, ?_⟩
  refine hk _ (fun q h1 h2 => ?_) ?_ (fun i hi => ?_)
  · rw [sx_up_ne h2, sx_up_ne h1, sx_up_ne h1]
  · rw [sx_up_ne (by decide), sx_up_same, pk_us, sx_up_ne (by decide)]
  · rw [sx_up_same, va_cpy0 hi, sx_up_ne (by decide), sx_up_ne (by decide)]
theorem c_shbec_76_59 (hk : ∀ J, (∀ q, q ≠ 76 → q ≠ 77 → J q = I q) → J 76 1 = I 59 1 → (∀ i, i < 24 → J 77 i = I 60 i) → K none J (sx_run rw m ln)) : sx_C 53 (d + 1) [.ref 76, .ref 59] I (sx_run rw m ln) K := by
  refine sx_enter (by decide +kernel) (Nat.le_of_ble_eq_true rfl) (sx_go m53 100 rfl (fun VV CC hV hC => ?_))
  refine ⟨24, 0, 0, ⟨rfl, rfl, rfl, by omega, by omega⟩, Nat.le_of_ble_eq_true rfl, ?_⟩
  refine hk _ (fun q h1 h2 => ?_) ?_ (fun i hi => ?_)
  · rw [sx_up_ne h2, sx_up_ne h1, sx_up_ne h1]
  · rw [sx_up_ne (by decide), sx_up_same, pk_us, sx_up_ne (by decide)]
  · rw [sx_up_same, va_cpy0 hi, sx_up_ne (by decide), sx_up_ne (by decide)]
theorem c_shbec_76_61 (hk : ∀ J, (∀ q, q ≠ 76 → q ≠ 77 → J q = I q) → J 76 1 = I 61 1 → (∀ i, i < 24 → J 77 i = I 62 i) → K none J (sx_run rw m ln)) : sx_C 53 (d + 1) [.ref 76, .ref 61] I (sx_run rw m ln) K := by
  refine sx_enter (by decide +kernel) (Nat.le_of_ble_eq_true rfl) (sx_go m53 100 rfl (fun VV CC hV hC => ?_))
  refine ⟨24, 0, 0, ⟨rfl, rfl, rfl, by omega, by omega⟩, Nat.le_of_ble_eq_true rfl, ?_⟩
  refine hk _ (fun q h1 h2 => ?_) ?_ (fun i hi => ?_)
  · rw [sx_up_ne h2, sx_up_ne h1, sx_up_ne h1]
  · rw [sx_up_ne (by decide), sx_up_same, pk_us, sx_up_ne (by decide)]
  · rw [sx_up_same, va_cpy0 hi, sx_up_ne (by decide), sx_up_ne (by decide)]
theorem v1_lay_63 {t k : Int32} (hb : gb 19 s I) (hi : gs_inv s) (hg : gh S Z R I) (ht : t = 0 ∨ t = nI 1 ∨ t = nI 2 ∨ t = nI 3) (h1 : t = nI 1 → ∃ j, k = nI j ∧ j < 10) (h2 : t = nI 2 → ∃ j, k = nI j ∧ j < 4)
    (hk : ∀ J, (∀ q, q ≠ 63 → q ≠ 64 → q ≠ 65 → J q = I q) → gl1 0 t (if t = nI 1 then s (12 + 5 * k.toNatClampNeg + 0) else k) (if t = nI 1 then gs_worth (s (12 + 5 * k.toNatClampNeg + 0)) (s (12 + 5 * k.toNatClampNeg + 2)) else nI 0) (Z k.toNatClampNeg) (fun i => R (24 * k.toNatClampNeg + i)) J → K (some (.int (I 63 0))) J (sx_run rw m ln)) :
    sx_V 92 (d + 2) 0 0 K 65 [(0, .ref 15), (1, .int (nI 0)), (2, .int t), (3, .int k)] [] I (sx_run rw m ln) := by
  have lit : ∀ a b, a < 4 → b < 4 → nI a = nI b → a = b := fun a b h h' e => (nI_eq (by omega) (by omega)).mp e
  refine sx_go m92 100 rfl (fun VV CC hV hC => ?_)
  refine ⟨0, ⟨rfl, by omega⟩, fun b (eb : some 63 = some b) => ?_, fun (eb : some 63 = none) => by cases eb⟩
  cases eb
  refine ⟨fun (c1 : ¬ t = nI 1) => ⟨fun (c2 : ¬ t = nI 2) => ⟨fun (c3 : ¬ t = nI 3) => ?_, fun (c3 : t = nI 3) => ?_⟩, fun (c2 : t = nI 2) => ?_⟩, fun (c1 : t = nI 1) => ?_⟩
  · have t0 : t = 0 := by
      rcases ht with h | h | h | h
      · exact h
      · exact absurd h c1
      · exact absurd h c2
      · exact absurd h c3
    refine hk _ (fun q q1 _ _ => sx_up_ne q1) ⟨?_, fun h => absurd h c1, fun h => absurd h c2, fun h => absurd h c3⟩
    show (sx_up I 63 (upd (I 63) 0 t)) 63 0 = t
    rw [sx_up_same, pk_us]
  · refine hk _ (fun q q1 _ _ => by rw [sx_up_ne q1, sx_up_ne q1]) ⟨?_, fun h => absurd h c1, fun h => absurd h c2, fun _ => ?_⟩
    · show (sx_up (sx_up I 63 (upd (I 63) 0 t)) 63 (upd ((sx_up I 63 (upd (I 63) 0 t)) 63) 3 k)) 63 0 = t
      rw [sx_up_same, pk_un (by omega), sx_up_same, pk_us]
    · rw [if_neg c1]
      show (sx_up (sx_up I 63 (upd (I 63) 0 t)) 63 (upd ((sx_up I 63 (upd (I 63) 0 t)) 63) 3 k)) 63 3 = k
      rw [sx_up_same, pk_us]
  · obtain ⟨j, rfl, hj⟩ := h2 c2
    rw [nI_clamp (by omega)] at hk
    have fin : ∀ J : sx_I, (∀ q, q ≠ 64 → q ≠ 65 → J q = (sx_up I 63 (upd (I 63) 0 t)) q) → J 64 1 = Z j → (∀ i, i < 24 → J 65 i = R (24 * j + i)) → K (some (.int (I 63 0))) J (sx_run rw m ln) := by
      intro J f1 f2 f3
      refine hk J (fun q q1 q2 q3 => by rw [f1 q q2 q3, sx_up_ne q1]) ⟨?_, fun h => absurd h c1, fun _ => ⟨f2, f3⟩, fun h => absurd (c2.symm.trans h) (by decide +kernel)⟩
      show J 63 0 = t
      rw [f1 63 (by omega) (by omega), sx_up_same, pk_us]
    have cj : j = 0 ∨ j = 1 ∨ j = 2 ∨ j = 3 := by omega
    rcases cj with rfl | rfl | rfl | rfl
    · refine ⟨0, ⟨rfl, by omega⟩, fun b (eb : some 55 = some b) => ?_, fun (eb : some 55 = none) => by cases eb⟩
      cases eb
      exact hC _ _ _ _ _ (c_shbec_64_55 (fun J f1 f2 f3 => fin J f1 (f2.trans (hg 0 (by omega)).2.1) (fun i hi => (f3 i hi).trans ((hg 0 (by omega)).2.2 i hi))))
    · refine ⟨1, ⟨rfl, by omega⟩, fun b (eb : some 57 = some b) => ?_, fun (eb : some 57 = none) => by cases eb⟩
      cases eb
      exact hC _ _ _ _ _ (c_shbec_64_57 (fun J f1 f2 f3 => fin J f1 (f2.trans (hg 1 (by omega)).2.1) (fun i hi => (f3 i hi).trans ((hg 1 (by omega)).2.2 i hi))))
    · refine ⟨2, ⟨rfl, by omega⟩, fun b (eb : some 59 = some b) => ?_, fun (eb : some 59 = none) => by cases eb⟩
      cases eb
      exact hC _ _ _ _ _ (c_shbec_64_59 (fun J f1 f2 f3 => fin J f1 (f2.trans (hg 2 (by omega)).2.1) (fun i hi => (f3 i hi).trans ((hg 2 (by omega)).2.2 i hi))))
    · refine ⟨3, ⟨rfl, by omega⟩, fun b (eb : some 61 = some b) => ?_, fun (eb : some 61 = none) => by cases eb⟩
      cases eb
      exact hC _ _ _ _ _ (c_shbec_64_61 (fun J f1 f2 f3 => fin J f1 (f2.trans (hg 3 (by omega)).2.1) (fun i hi => (f3 i hi).trans ((hg 3 (by omega)).2.2 i hi))))
  · obtain ⟨j, rfl, hj⟩ := h1 c1
    rw [nI_clamp (by omega), if_pos c1, if_pos c1] at hk
    refine ⟨j, ⟨rfl, by omega⟩, j, ⟨rfl, by omega⟩, ?_⟩
    refine hk _ (fun q q1 _ _ => by rw [sx_up_ne q1, sx_up_ne q1, sx_up_ne q1]) ⟨?_, fun _ => ⟨(hi.2 j hj).1, ?_, ?_⟩, fun h => absurd (c1.symm.trans h) (by decide +kernel), fun h => absurd (c1.symm.trans h) (by decide +kernel)⟩
    · show (sx_up (sx_up (sx_up I 63 (upd (I 63) 0 t)) 63 _) 63 (upd ((sx_up (sx_up I 63 (upd (I 63) 0 t)) 63 (upd ((sx_up I 63 (upd (I 63) 0 t)) 63) 1 _)) 63) 2 _)) 63 0 = t
      rw [sx_up_same, pk_un (by omega), sx_up_same, pk_un (by omega), sx_up_same, pk_us]
    · show (sx_up (sx_up (sx_up I 63 (upd (I 63) 0 t)) 63 _) 63 (upd ((sx_up (sx_up I 63 (upd (I 63) 0 t)) 63 (upd ((sx_up I 63 (upd (I 63) 0 t)) 63) 1 _)) 63) 2 _)) 63 1 = _
      rw [sx_up_same, pk_un (by omega), sx_up_same, pk_us]
      exact gb_kind_19 hb hj
    · show gs_worth ((sx_up (sx_up (sx_up I 63 (upd (I 63) 0 t)) 63 _) 63 (upd ((sx_up (sx_up I 63 (upd (I 63) 0 t)) 63 (upd ((sx_up I 63 (upd (I 63) 0 t)) 63) 1 _)) 63) 2 _)) 63 1) ((sx_up (sx_up (sx_up I 63 (upd (I 63) 0 t)) 63 _) 63 (upd ((sx_up (sx_up I 63 (upd (I 63) 0 t)) 63 (upd ((sx_up I 63 (upd (I 63) 0 t)) 63) 1 _)) 63) 2 _)) 63 2) = _
      rw [sx_up_same, pk_un (by omega), sx_up_same, pk_us, pk_us]
      have w1 : I 20 j = s (12 + 5 * j + 0) := gb_kind_19 hb hj
      have w2 : I 22 j = s (12 + 5 * j + 2) := gb_wear_19 hb hj
      rw [← w1, ← w2]
      rfl
theorem v1_lay_66 {t k : Int32} (hb : gb 19 s I) (hi : gs_inv s) (hg : gh S Z R I) (ht : t = 0 ∨ t = nI 1 ∨ t = nI 2 ∨ t = nI 3) (h1 : t = nI 1 → ∃ j, k = nI j ∧ j < 10) (h2 : t = nI 2 → ∃ j, k = nI j ∧ j < 4)
    (hk : ∀ J, (∀ q, q ≠ 66 → q ≠ 67 → q ≠ 68 → J q = I q) → gl1 1 t (if t = nI 1 then s (12 + 5 * k.toNatClampNeg + 0) else k) (if t = nI 1 then gs_worth (s (12 + 5 * k.toNatClampNeg + 0)) (s (12 + 5 * k.toNatClampNeg + 2)) else nI 0) (Z k.toNatClampNeg) (fun i => R (24 * k.toNatClampNeg + i)) J → K (some (.int (I 66 0))) J (sx_run rw m ln)) :
    sx_V 92 (d + 2) 0 0 K 65 [(0, .ref 15), (1, .int (nI 1)), (2, .int t), (3, .int k)] [] I (sx_run rw m ln) := by
  have lit : ∀ a b, a < 4 → b < 4 → nI a = nI b → a = b := fun a b h h' e => (nI_eq (by omega) (by omega)).mp e
  refine sx_go m92 100 rfl (fun VV CC hV hC => ?_)
  refine ⟨1, ⟨rfl, by omega⟩, fun b (eb : some 66 = some b) => ?_, fun (eb : some 66 = none) => by cases eb⟩
  cases eb
  refine ⟨fun (c1 : ¬ t = nI 1) => ⟨fun (c2 : ¬ t = nI 2) => ⟨fun (c3 : ¬ t = nI 3) => ?_, fun (c3 : t = nI 3) => ?_⟩, fun (c2 : t = nI 2) => ?_⟩, fun (c1 : t = nI 1) => ?_⟩
  · have t0 : t = 0 := by
      rcases ht with h | h | h | h
      · exact h
      · exact absurd h c1
      · exact absurd h c2
      · exact absurd h c3
    refine hk _ (fun q q1 _ _ => sx_up_ne q1) ⟨?_, fun h => absurd h c1, fun h => absurd h c2, fun h => absurd h c3⟩
    show (sx_up I 66 (upd (I 66) 0 t)) 66 0 = t
    rw [sx_up_same, pk_us]
  · refine hk _ (fun q q1 _ _ => by rw [sx_up_ne q1, sx_up_ne q1]) ⟨?_, fun h => absurd h c1, fun h => absurd h c2, fun _ => ?_⟩
    · show (sx_up (sx_up I 66 (upd (I 66) 0 t)) 66 (upd ((sx_up I 66 (upd (I 66) 0 t)) 66) 3 k)) 66 0 = t
      rw [sx_up_same, pk_un (by omega), sx_up_same, pk_us]
    · rw [if_neg c1]
      show (sx_up (sx_up I 66 (upd (I 66) 0 t)) 66 (upd ((sx_up I 66 (upd (I 66) 0 t)) 66) 3 k)) 66 3 = k
      rw [sx_up_same, pk_us]
  · obtain ⟨j, rfl, hj⟩ := h2 c2
    rw [nI_clamp (by omega)] at hk
    have fin : ∀ J : sx_I, (∀ q, q ≠ 67 → q ≠ 68 → J q = (sx_up I 66 (upd (I 66) 0 t)) q) → J 67 1 = Z j → (∀ i, i < 24 → J 68 i = R (24 * j + i)) → K (some (.int (I 66 0))) J (sx_run rw m ln) := by
      intro J f1 f2 f3
      refine hk J (fun q q1 q2 q3 => by rw [f1 q q2 q3, sx_up_ne q1]) ⟨?_, fun h => absurd h c1, fun _ => ⟨f2, f3⟩, fun h => absurd (c2.symm.trans h) (by decide +kernel)⟩
      show J 66 0 = t
      rw [f1 66 (by omega) (by omega), sx_up_same, pk_us]
    have cj : j = 0 ∨ j = 1 ∨ j = 2 ∨ j = 3 := by omega
    rcases cj with rfl | rfl | rfl | rfl
    · refine ⟨0, ⟨rfl, by omega⟩, fun b (eb : some 55 = some b) => ?_, fun (eb : some 55 = none) => by cases eb⟩
      cases eb
      exact hC _ _ _ _ _ (c_shbec_67_55 (fun J f1 f2 f3 => fin J f1 (f2.trans (hg 0 (by omega)).2.1) (fun i hi => (f3 i hi).trans ((hg 0 (by omega)).2.2 i hi))))
    · refine ⟨1, ⟨rfl, by omega⟩, fun b (eb : some 57 = some b) => ?_, fun (eb : some 57 = none) => by cases eb⟩
      cases eb
      exact hC _ _ _ _ _ (c_shbec_67_57 (fun J f1 f2 f3 => fin J f1 (f2.trans (hg 1 (by omega)).2.1) (fun i hi => (f3 i hi).trans ((hg 1 (by omega)).2.2 i hi))))
    · refine ⟨2, ⟨rfl, by omega⟩, fun b (eb : some 59 = some b) => ?_, fun (eb : some 59 = none) => by cases eb⟩
      cases eb
      exact hC _ _ _ _ _ (c_shbec_67_59 (fun J f1 f2 f3 => fin J f1 (f2.trans (hg 2 (by omega)).2.1) (fun i hi => (f3 i hi).trans ((hg 2 (by omega)).2.2 i hi))))
    · refine ⟨3, ⟨rfl, by omega⟩, fun b (eb : some 61 = some b) => ?_, fun (eb : some 61 = none) => by cases eb⟩
      cases eb
      exact hC _ _ _ _ _ (c_shbec_67_61 (fun J f1 f2 f3 => fin J f1 (f2.trans (hg 3 (by omega)).2.1) (fun i hi => (f3 i hi).trans ((hg 3 (by omega)).2.2 i hi))))
  · obtain ⟨j, rfl, hj⟩ := h1 c1
    rw [nI_clamp (by omega), if_pos c1, if_pos c1] at hk
    refine ⟨j, ⟨rfl, by omega⟩, j, ⟨rfl, by omega⟩, ?_⟩
    refine hk _ (fun q q1 _ _ => by rw [sx_up_ne q1, sx_up_ne q1, sx_up_ne q1]) ⟨?_, fun _ => ⟨(hi.2 j hj).1, ?_, ?_⟩, fun h => absurd (c1.symm.trans h) (by decide +kernel), fun h => absurd (c1.symm.trans h) (by decide +kernel)⟩
    · show (sx_up (sx_up (sx_up I 66 (upd (I 66) 0 t)) 66 _) 66 (upd ((sx_up (sx_up I 66 (upd (I 66) 0 t)) 66 (upd ((sx_up I 66 (upd (I 66) 0 t)) 66) 1 _)) 66) 2 _)) 66 0 = t
      rw [sx_up_same, pk_un (by omega), sx_up_same, pk_un (by omega), sx_up_same, pk_us]
    · show (sx_up (sx_up (sx_up I 66 (upd (I 66) 0 t)) 66 _) 66 (upd ((sx_up (sx_up I 66 (upd (I 66) 0 t)) 66 (upd ((sx_up I 66 (upd (I 66) 0 t)) 66) 1 _)) 66) 2 _)) 66 1 = _
      rw [sx_up_same, pk_un (by omega), sx_up_same, pk_us]
      exact gb_kind_19 hb hj
    · show gs_worth ((sx_up (sx_up (sx_up I 66 (upd (I 66) 0 t)) 66 _) 66 (upd ((sx_up (sx_up I 66 (upd (I 66) 0 t)) 66 (upd ((sx_up I 66 (upd (I 66) 0 t)) 66) 1 _)) 66) 2 _)) 66 1) ((sx_up (sx_up (sx_up I 66 (upd (I 66) 0 t)) 66 _) 66 (upd ((sx_up (sx_up I 66 (upd (I 66) 0 t)) 66 (upd ((sx_up I 66 (upd (I 66) 0 t)) 66) 1 _)) 66) 2 _)) 66 2) = _
      rw [sx_up_same, pk_un (by omega), sx_up_same, pk_us, pk_us]
      have w1 : I 20 j = s (12 + 5 * j + 0) := gb_kind_19 hb hj
      have w2 : I 22 j = s (12 + 5 * j + 2) := gb_wear_19 hb hj
      rw [← w1, ← w2]
      rfl
theorem v1_lay_69 {t k : Int32} (hb : gb 19 s I) (hi : gs_inv s) (hg : gh S Z R I) (ht : t = 0 ∨ t = nI 1 ∨ t = nI 2 ∨ t = nI 3) (h1 : t = nI 1 → ∃ j, k = nI j ∧ j < 10) (h2 : t = nI 2 → ∃ j, k = nI j ∧ j < 4)
    (hk : ∀ J, (∀ q, q ≠ 69 → q ≠ 70 → q ≠ 71 → J q = I q) → gl1 2 t (if t = nI 1 then s (12 + 5 * k.toNatClampNeg + 0) else k) (if t = nI 1 then gs_worth (s (12 + 5 * k.toNatClampNeg + 0)) (s (12 + 5 * k.toNatClampNeg + 2)) else nI 0) (Z k.toNatClampNeg) (fun i => R (24 * k.toNatClampNeg + i)) J → K (some (.int (I 69 0))) J (sx_run rw m ln)) :
    sx_V 92 (d + 2) 0 0 K 65 [(0, .ref 15), (1, .int (nI 2)), (2, .int t), (3, .int k)] [] I (sx_run rw m ln) := by
  have lit : ∀ a b, a < 4 → b < 4 → nI a = nI b → a = b := fun a b h h' e => (nI_eq (by omega) (by omega)).mp e
  refine sx_go m92 100 rfl (fun VV CC hV hC => ?_)
  refine ⟨2, ⟨rfl, by omega⟩, fun b (eb : some 69 = some b) => ?_, fun (eb : some 69 = none) => by cases eb⟩
  cases eb
  refine ⟨fun (c1 : ¬ t = nI 1) => ⟨fun (c2 : ¬ t = nI 2) => ⟨fun (c3 : ¬ t = nI 3) => ?_, fun (c3 : t = nI 3) => ?_⟩, fun (c2 : t = nI 2) => ?_⟩, fun (c1 : t = nI 1) => ?_⟩
  · have t0 : t = 0 := by
      rcases ht with h | h | h | h
      · exact h
      · exact absurd h c1
      · exact absurd h c2
      · exact absurd h c3
    refine hk _ (fun q q1 _ _ => sx_up_ne q1) ⟨?_, fun h => absurd h c1, fun h => absurd h c2, fun h => absurd h c3⟩
    show (sx_up I 69 (upd (I 69) 0 t)) 69 0 = t
    rw [sx_up_same, pk_us]
  · refine hk _ (fun q q1 _ _ => by rw [sx_up_ne q1, sx_up_ne q1]) ⟨?_, fun h => absurd h c1, fun h => absurd h c2, fun _ => ?_⟩
    · show (sx_up (sx_up I 69 (upd (I 69) 0 t)) 69 (upd ((sx_up I 69 (upd (I 69) 0 t)) 69) 3 k)) 69 0 = t
      rw [sx_up_same, pk_un (by omega), sx_up_same, pk_us]
    · rw [if_neg c1]
      show (sx_up (sx_up I 69 (upd (I 69) 0 t)) 69 (upd ((sx_up I 69 (upd (I 69) 0 t)) 69) 3 k)) 69 3 = k
      rw [sx_up_same, pk_us]
  · obtain ⟨j, rfl, hj⟩ := h2 c2
    rw [nI_clamp (by omega)] at hk
    have fin : ∀ J : sx_I, (∀ q, q ≠ 70 → q ≠ 71 → J q = (sx_up I 69 (upd (I 69) 0 t)) q) → J 70 1 = Z j → (∀ i, i < 24 → J 71 i = R (24 * j + i)) → K (some (.int (I 69 0))) J (sx_run rw m ln) := by
      intro J f1 f2 f3
      refine hk J (fun q q1 q2 q3 => by rw [f1 q q2 q3, sx_up_ne q1]) ⟨?_, fun h => absurd h c1, fun _ => ⟨f2, f3⟩, fun h => absurd (c2.symm.trans h) (by decide +kernel)⟩
      show J 69 0 = t
      rw [f1 69 (by omega) (by omega), sx_up_same, pk_us]
    have cj : j = 0 ∨ j = 1 ∨ j = 2 ∨ j = 3 := by omega
    rcases cj with rfl | rfl | rfl | rfl
    · refine ⟨0, ⟨rfl, by omega⟩, fun b (eb : some 55 = some b) => ?_, fun (eb : some 55 = none) => by cases eb⟩
      cases eb
      exact hC _ _ _ _ _ (c_shbec_70_55 (fun J f1 f2 f3 => fin J f1 (f2.trans (hg 0 (by omega)).2.1) (fun i hi => (f3 i hi).trans ((hg 0 (by omega)).2.2 i hi))))
    · refine ⟨1, ⟨rfl, by omega⟩, fun b (eb : some 57 = some b) => ?_, fun (eb : some 57 = none) => by cases eb⟩
      cases eb
      exact hC _ _ _ _ _ (c_shbec_70_57 (fun J f1 f2 f3 => fin J f1 (f2.trans (hg 1 (by omega)).2.1) (fun i hi => (f3 i hi).trans ((hg 1 (by omega)).2.2 i hi))))
    · refine ⟨2, ⟨rfl, by omega⟩, fun b (eb : some 59 = some b) => ?_, fun (eb : some 59 = none) => by cases eb⟩
      cases eb
      exact hC _ _ _ _ _ (c_shbec_70_59 (fun J f1 f2 f3 => fin J f1 (f2.trans (hg 2 (by omega)).2.1) (fun i hi => (f3 i hi).trans ((hg 2 (by omega)).2.2 i hi))))
    · refine ⟨3, ⟨rfl, by omega⟩, fun b (eb : some 61 = some b) => ?_, fun (eb : some 61 = none) => by cases eb⟩
      cases eb
      exact hC _ _ _ _ _ (c_shbec_70_61 (fun J f1 f2 f3 => fin J f1 (f2.trans (hg 3 (by omega)).2.1) (fun i hi => (f3 i hi).trans ((hg 3 (by omega)).2.2 i hi))))
  · obtain ⟨j, rfl, hj⟩ := h1 c1
    rw [nI_clamp (by omega), if_pos c1, if_pos c1] at hk
    refine ⟨j, ⟨rfl, by omega⟩, j, ⟨rfl, by omega⟩, ?_⟩
    refine hk _ (fun q q1 _ _ => by rw [sx_up_ne q1, sx_up_ne q1, sx_up_ne q1]) ⟨?_, fun _ => ⟨(hi.2 j hj).1, ?_, ?_⟩, fun h => absurd (c1.symm.trans h) (by decide +kernel), fun h => absurd (c1.symm.trans h) (by decide +kernel)⟩
    · show (sx_up (sx_up (sx_up I 69 (upd (I 69) 0 t)) 69 _) 69 (upd ((sx_up (sx_up I 69 (upd (I 69) 0 t)) 69 (upd ((sx_up I 69 (upd (I 69) 0 t)) 69) 1 _)) 69) 2 _)) 69 0 = t
      rw [sx_up_same, pk_un (by omega), sx_up_same, pk_un (by omega), sx_up_same, pk_us]
    · show (sx_up (sx_up (sx_up I 69 (upd (I 69) 0 t)) 69 _) 69 (upd ((sx_up (sx_up I 69 (upd (I 69) 0 t)) 69 (upd ((sx_up I 69 (upd (I 69) 0 t)) 69) 1 _)) 69) 2 _)) 69 1 = _
      rw [sx_up_same, pk_un (by omega), sx_up_same, pk_us]
      exact gb_kind_19 hb hj
    · show gs_worth ((sx_up (sx_up (sx_up I 69 (upd (I 69) 0 t)) 69 _) 69 (upd ((sx_up (sx_up I 69 (upd (I 69) 0 t)) 69 (upd ((sx_up I 69 (upd (I 69) 0 t)) 69) 1 _)) 69) 2 _)) 69 1) ((sx_up (sx_up (sx_up I 69 (upd (I 69) 0 t)) 69 _) 69 (upd ((sx_up (sx_up I 69 (upd (I 69) 0 t)) 69 (upd ((sx_up I 69 (upd (I 69) 0 t)) 69) 1 _)) 69) 2 _)) 69 2) = _
      rw [sx_up_same, pk_un (by omega), sx_up_same, pk_us, pk_us]
      have w1 : I 20 j = s (12 + 5 * j + 0) := gb_kind_19 hb hj
      have w2 : I 22 j = s (12 + 5 * j + 2) := gb_wear_19 hb hj
      rw [← w1, ← w2]
      rfl
theorem v1_lay_72 {t k : Int32} (hb : gb 19 s I) (hi : gs_inv s) (hg : gh S Z R I) (ht : t = 0 ∨ t = nI 1 ∨ t = nI 2 ∨ t = nI 3) (h1 : t = nI 1 → ∃ j, k = nI j ∧ j < 10) (h2 : t = nI 2 → ∃ j, k = nI j ∧ j < 4)
    (hk : ∀ J, (∀ q, q ≠ 72 → q ≠ 73 → q ≠ 74 → J q = I q) → gl1 3 t (if t = nI 1 then s (12 + 5 * k.toNatClampNeg + 0) else k) (if t = nI 1 then gs_worth (s (12 + 5 * k.toNatClampNeg + 0)) (s (12 + 5 * k.toNatClampNeg + 2)) else nI 0) (Z k.toNatClampNeg) (fun i => R (24 * k.toNatClampNeg + i)) J → K (some (.int (I 72 0))) J (sx_run rw m ln)) :
    sx_V 92 (d + 2) 0 0 K 65 [(0, .ref 15), (1, .int (nI 3)), (2, .int t), (3, .int k)] [] I (sx_run rw m ln) := by
  have lit : ∀ a b, a < 4 → b < 4 → nI a = nI b → a = b := fun a b h h' e => (nI_eq (by omega) (by omega)).mp e
  refine sx_go m92 100 rfl (fun VV CC hV hC => ?_)
  refine ⟨3, ⟨rfl, by omega⟩, fun b (eb : some 72 = some b) => ?_, fun (eb : some 72 = none) => by cases eb⟩
  cases eb
  refine ⟨fun (c1 : ¬ t = nI 1) => ⟨fun (c2 : ¬ t = nI 2) => ⟨fun (c3 : ¬ t = nI 3) => ?_, fun (c3 : t = nI 3) => ?_⟩, fun (c2 : t = nI 2) => ?_⟩, fun (c1 : t = nI 1) => ?_⟩
  · have t0 : t = 0 := by
      rcases ht with h | h | h | h
      · exact h
      · exact absurd h c1
      · exact absurd h c2
      · exact absurd h c3
    refine hk _ (fun q q1 _ _ => sx_up_ne q1) ⟨?_, fun h => absurd h c1, fun h => absurd h c2, fun h => absurd h c3⟩
    show (sx_up I 72 (upd (I 72) 0 t)) 72 0 = t
    rw [sx_up_same, pk_us]
  · refine hk _ (fun q q1 _ _ => by rw [sx_up_ne q1, sx_up_ne q1]) ⟨?_, fun h => absurd h c1, fun h => absurd h c2, fun _ => ?_⟩
    · show (sx_up (sx_up I 72 (upd (I 72) 0 t)) 72 (upd ((sx_up I 72 (upd (I 72) 0 t)) 72) 3 k)) 72 0 = t
      rw [sx_up_same, pk_un (by omega), sx_up_same, pk_us]
    · rw [if_neg c1]
      show (sx_up (sx_up I 72 (upd (I 72) 0 t)) 72 (upd ((sx_up I 72 (upd (I 72) 0 t)) 72) 3 k)) 72 3 = k
      rw [sx_up_same, pk_us]
  · obtain ⟨j, rfl, hj⟩ := h2 c2
    rw [nI_clamp (by omega)] at hk
    have fin : ∀ J : sx_I, (∀ q, q ≠ 73 → q ≠ 74 → J q = (sx_up I 72 (upd (I 72) 0 t)) q) → J 73 1 = Z j → (∀ i, i < 24 → J 74 i = R (24 * j + i)) → K (some (.int (I 72 0))) J (sx_run rw m ln) := by
      intro J f1 f2 f3
      refine hk J (fun q q1 q2 q3 => by rw [f1 q q2 q3, sx_up_ne q1]) ⟨?_, fun h => absurd h c1, fun _ => ⟨f2, f3⟩, fun h => absurd (c2.symm.trans h) (by decide +kernel)⟩
      show J 72 0 = t
      rw [f1 72 (by omega) (by omega), sx_up_same, pk_us]
    have cj : j = 0 ∨ j = 1 ∨ j = 2 ∨ j = 3 := by omega
    rcases cj with rfl | rfl | rfl | rfl
    · refine ⟨0, ⟨rfl, by omega⟩, fun b (eb : some 55 = some b) => ?_, fun (eb : some 55 = none) => by cases eb⟩
      cases eb
      exact hC _ _ _ _ _ (c_shbec_73_55 (fun J f1 f2 f3 => fin J f1 (f2.trans (hg 0 (by omega)).2.1) (fun i hi => (f3 i hi).trans ((hg 0 (by omega)).2.2 i hi))))
    · refine ⟨1, ⟨rfl, by omega⟩, fun b (eb : some 57 = some b) => ?_, fun (eb : some 57 = none) => by cases eb⟩
      cases eb
      exact hC _ _ _ _ _ (c_shbec_73_57 (fun J f1 f2 f3 => fin J f1 (f2.trans (hg 1 (by omega)).2.1) (fun i hi => (f3 i hi).trans ((hg 1 (by omega)).2.2 i hi))))
    · refine ⟨2, ⟨rfl, by omega⟩, fun b (eb : some 59 = some b) => ?_, fun (eb : some 59 = none) => by cases eb⟩
      cases eb
      exact hC _ _ _ _ _ (c_shbec_73_59 (fun J f1 f2 f3 => fin J f1 (f2.trans (hg 2 (by omega)).2.1) (fun i hi => (f3 i hi).trans ((hg 2 (by omega)).2.2 i hi))))
    · refine ⟨3, ⟨rfl, by omega⟩, fun b (eb : some 61 = some b) => ?_, fun (eb : some 61 = none) => by cases eb⟩
      cases eb
      exact hC _ _ _ _ _ (c_shbec_73_61 (fun J f1 f2 f3 => fin J f1 (f2.trans (hg 3 (by omega)).2.1) (fun i hi => (f3 i hi).trans ((hg 3 (by omega)).2.2 i hi))))
  · obtain ⟨j, rfl, hj⟩ := h1 c1
    rw [nI_clamp (by omega), if_pos c1, if_pos c1] at hk
    refine ⟨j, ⟨rfl, by omega⟩, j, ⟨rfl, by omega⟩, ?_⟩
    refine hk _ (fun q q1 _ _ => by rw [sx_up_ne q1, sx_up_ne q1, sx_up_ne q1]) ⟨?_, fun _ => ⟨(hi.2 j hj).1, ?_, ?_⟩, fun h => absurd (c1.symm.trans h) (by decide +kernel), fun h => absurd (c1.symm.trans h) (by decide +kernel)⟩
    · show (sx_up (sx_up (sx_up I 72 (upd (I 72) 0 t)) 72 _) 72 (upd ((sx_up (sx_up I 72 (upd (I 72) 0 t)) 72 (upd ((sx_up I 72 (upd (I 72) 0 t)) 72) 1 _)) 72) 2 _)) 72 0 = t
      rw [sx_up_same, pk_un (by omega), sx_up_same, pk_un (by omega), sx_up_same, pk_us]
    · show (sx_up (sx_up (sx_up I 72 (upd (I 72) 0 t)) 72 _) 72 (upd ((sx_up (sx_up I 72 (upd (I 72) 0 t)) 72 (upd ((sx_up I 72 (upd (I 72) 0 t)) 72) 1 _)) 72) 2 _)) 72 1 = _
      rw [sx_up_same, pk_un (by omega), sx_up_same, pk_us]
      exact gb_kind_19 hb hj
    · show gs_worth ((sx_up (sx_up (sx_up I 72 (upd (I 72) 0 t)) 72 _) 72 (upd ((sx_up (sx_up I 72 (upd (I 72) 0 t)) 72 (upd ((sx_up I 72 (upd (I 72) 0 t)) 72) 1 _)) 72) 2 _)) 72 1) ((sx_up (sx_up (sx_up I 72 (upd (I 72) 0 t)) 72 _) 72 (upd ((sx_up (sx_up I 72 (upd (I 72) 0 t)) 72 (upd ((sx_up I 72 (upd (I 72) 0 t)) 72) 1 _)) 72) 2 _)) 72 2) = _
      rw [sx_up_same, pk_un (by omega), sx_up_same, pk_us, pk_us]
      have w1 : I 20 j = s (12 + 5 * j + 0) := gb_kind_19 hb hj
      have w2 : I 22 j = s (12 + 5 * j + 2) := gb_wear_19 hb hj
      rw [← w1, ← w2]
      rfl
theorem v1_lay_75 {t k : Int32} (hb : gb 19 s I) (hi : gs_inv s) (hg : gh S Z R I) (ht : t = 0 ∨ t = nI 1 ∨ t = nI 2 ∨ t = nI 3) (h1 : t = nI 1 → ∃ j, k = nI j ∧ j < 10) (h2 : t = nI 2 → ∃ j, k = nI j ∧ j < 4)
    (hk : ∀ J, (∀ q, q ≠ 75 → q ≠ 76 → q ≠ 77 → J q = I q) → gl1 4 t (if t = nI 1 then s (12 + 5 * k.toNatClampNeg + 0) else k) (if t = nI 1 then gs_worth (s (12 + 5 * k.toNatClampNeg + 0)) (s (12 + 5 * k.toNatClampNeg + 2)) else nI 0) (Z k.toNatClampNeg) (fun i => R (24 * k.toNatClampNeg + i)) J → K (some (.int (I 75 0))) J (sx_run rw m ln)) :
    sx_V 92 (d + 2) 0 0 K 65 [(0, .ref 15), (1, .int (nI 4)), (2, .int t), (3, .int k)] [] I (sx_run rw m ln) := by
  have lit : ∀ a b, a < 4 → b < 4 → nI a = nI b → a = b := fun a b h h' e => (nI_eq (by omega) (by omega)).mp e
  refine sx_go m92 100 rfl (fun VV CC hV hC => ?_)
  refine ⟨4, ⟨rfl, by omega⟩, fun b (eb : some 75 = some b) => ?_, fun (eb : some 75 = none) => by cases eb⟩
  cases eb
  refine ⟨fun (c1 : ¬ t = nI 1) => ⟨fun (c2 : ¬ t = nI 2) => ⟨fun (c3 : ¬ t = nI 3) => ?_, fun (c3 : t = nI 3) => ?_⟩, fun (c2 : t = nI 2) => ?_⟩, fun (c1 : t = nI 1) => ?_⟩
  · have t0 : t = 0 := by
      rcases ht with h | h | h | h
      · exact h
      · exact absurd h c1
      · exact absurd h c2
      · exact absurd h c3
    refine hk _ (fun q q1 _ _ => sx_up_ne q1) ⟨?_, fun h => absurd h c1, fun h => absurd h c2, fun h => absurd h c3⟩
    show (sx_up I 75 (upd (I 75) 0 t)) 75 0 = t
    rw [sx_up_same, pk_us]
  · refine hk _ (fun q q1 _ _ => by rw [sx_up_ne q1, sx_up_ne q1]) ⟨?_, fun h => absurd h c1, fun h => absurd h c2, fun _ => ?_⟩
    · show (sx_up (sx_up I 75 (upd (I 75) 0 t)) 75 (upd ((sx_up I 75 (upd (I 75) 0 t)) 75) 3 k)) 75 0 = t
      rw [sx_up_same, pk_un (by omega), sx_up_same, pk_us]
    · rw [if_neg c1]
      show (sx_up (sx_up I 75 (upd (I 75) 0 t)) 75 (upd ((sx_up I 75 (upd (I 75) 0 t)) 75) 3 k)) 75 3 = k
      rw [sx_up_same, pk_us]
  · obtain ⟨j, rfl, hj⟩ := h2 c2
    rw [nI_clamp (by omega)] at hk
    have fin : ∀ J : sx_I, (∀ q, q ≠ 76 → q ≠ 77 → J q = (sx_up I 75 (upd (I 75) 0 t)) q) → J 76 1 = Z j → (∀ i, i < 24 → J 77 i = R (24 * j + i)) → K (some (.int (I 75 0))) J (sx_run rw m ln) := by
      intro J f1 f2 f3
      refine hk J (fun q q1 q2 q3 => by rw [f1 q q2 q3, sx_up_ne q1]) ⟨?_, fun h => absurd h c1, fun _ => ⟨f2, f3⟩, fun h => absurd (c2.symm.trans h) (by decide +kernel)⟩
      show J 75 0 = t
      rw [f1 75 (by omega) (by omega), sx_up_same, pk_us]
    have cj : j = 0 ∨ j = 1 ∨ j = 2 ∨ j = 3 := by omega
    rcases cj with rfl | rfl | rfl | rfl
    · refine ⟨0, ⟨rfl, by omega⟩, fun b (eb : some 55 = some b) => ?_, fun (eb : some 55 = none) => by cases eb⟩
      cases eb
      exact hC _ _ _ _ _ (c_shbec_76_55 (fun J f1 f2 f3 => fin J f1 (f2.trans (hg 0 (by omega)).2.1) (fun i hi => (f3 i hi).trans ((hg 0 (by omega)).2.2 i hi))))
    · refine ⟨1, ⟨rfl, by omega⟩, fun b (eb : some 57 = some b) => ?_, fun (eb : some 57 = none) => by cases eb⟩
      cases eb
      exact hC _ _ _ _ _ (c_shbec_76_57 (fun J f1 f2 f3 => fin J f1 (f2.trans (hg 1 (by omega)).2.1) (fun i hi => (f3 i hi).trans ((hg 1 (by omega)).2.2 i hi))))
    · refine ⟨2, ⟨rfl, by omega⟩, fun b (eb : some 59 = some b) => ?_, fun (eb : some 59 = none) => by cases eb⟩
      cases eb
      exact hC _ _ _ _ _ (c_shbec_76_59 (fun J f1 f2 f3 => fin J f1 (f2.trans (hg 2 (by omega)).2.1) (fun i hi => (f3 i hi).trans ((hg 2 (by omega)).2.2 i hi))))
    · refine ⟨3, ⟨rfl, by omega⟩, fun b (eb : some 61 = some b) => ?_, fun (eb : some 61 = none) => by cases eb⟩
      cases eb
      exact hC _ _ _ _ _ (c_shbec_76_61 (fun J f1 f2 f3 => fin J f1 (f2.trans (hg 3 (by omega)).2.1) (fun i hi => (f3 i hi).trans ((hg 3 (by omega)).2.2 i hi))))
  · obtain ⟨j, rfl, hj⟩ := h1 c1
    rw [nI_clamp (by omega), if_pos c1, if_pos c1] at hk
    refine ⟨j, ⟨rfl, by omega⟩, j, ⟨rfl, by omega⟩, ?_⟩
    refine hk _ (fun q q1 _ _ => by rw [sx_up_ne q1, sx_up_ne q1, sx_up_ne q1]) ⟨?_, fun _ => ⟨(hi.2 j hj).1, ?_, ?_⟩, fun h => absurd (c1.symm.trans h) (by decide +kernel), fun h => absurd (c1.symm.trans h) (by decide +kernel)⟩
    · show (sx_up (sx_up (sx_up I 75 (upd (I 75) 0 t)) 75 _) 75 (upd ((sx_up (sx_up I 75 (upd (I 75) 0 t)) 75 (upd ((sx_up I 75 (upd (I 75) 0 t)) 75) 1 _)) 75) 2 _)) 75 0 = t
      rw [sx_up_same, pk_un (by omega), sx_up_same, pk_un (by omega), sx_up_same, pk_us]
    · show (sx_up (sx_up (sx_up I 75 (upd (I 75) 0 t)) 75 _) 75 (upd ((sx_up (sx_up I 75 (upd (I 75) 0 t)) 75 (upd ((sx_up I 75 (upd (I 75) 0 t)) 75) 1 _)) 75) 2 _)) 75 1 = _
      rw [sx_up_same, pk_un (by omega), sx_up_same, pk_us]
      exact gb_kind_19 hb hj
    · show gs_worth ((sx_up (sx_up (sx_up I 75 (upd (I 75) 0 t)) 75 _) 75 (upd ((sx_up (sx_up I 75 (upd (I 75) 0 t)) 75 (upd ((sx_up I 75 (upd (I 75) 0 t)) 75) 1 _)) 75) 2 _)) 75 1) ((sx_up (sx_up (sx_up I 75 (upd (I 75) 0 t)) 75 _) 75 (upd ((sx_up (sx_up I 75 (upd (I 75) 0 t)) 75 (upd ((sx_up I 75 (upd (I 75) 0 t)) 75) 1 _)) 75) 2 _)) 75 2) = _
      rw [sx_up_same, pk_un (by omega), sx_up_same, pk_us, pk_us]
      have w1 : I 20 j = s (12 + 5 * j + 0) := gb_kind_19 hb hj
      have w2 : I 22 j = s (12 + 5 * j + 2) := gb_wear_19 hb hj
      rw [← w1, ← w2]
      rfl
end
