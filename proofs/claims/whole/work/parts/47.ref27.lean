/-! ===== the reference: the nights told are checked ===== -/
theorem gs_ht_ag {s s' : Nat → Int32} (h : ∀ i, i < 2862 → s' i = s i) {t : Nat} (ht : t < 14) : ∀ k, k ≤ 96 → gs_ht s' t k = gs_ht s t k
  | 0, _ => rfl
  | k + 1, hk => by
    unfold gs_ht
    rw [gs_ht_ag h ht k (by omega), h _ (by omega), h _ (by omega)]
theorem gs_tok_ag {s s' : Nat → Int32} {t M : Nat} (h : ∀ i, i < 2862 → s' i = s i) (ht : gs_tok s t M) : gs_tok s' t M := by
  obtain ⟨h1, h2, h3, h4, h5⟩ := ht
  refine ⟨h1, by rw [h _ (by omega)]; exact h2, h3, by rw [gs_ht_ag h h1 _ h3]; exact h4, fun k hk => ?_⟩
  rw [h _ (by omega), h _ (by omega), gs_ht_ag h h1 _ (by omega), h _ (by omega)]
  exact h5 k hk
theorem gs_tx_ag {s s' : Nat → Int32} (h : ∀ i, i < 2862 → s' i = s i) (ht : gs_tx s) : gs_tx s' := by
  obtain ⟨T, h1, h2, h3⟩ := ht
  refine ⟨T, (h 1 (by omega)).trans h1, h2, fun t htT => ?_⟩
  obtain ⟨M, hM⟩ := h3 t htT
  exact ⟨M, gs_tok_ag h hM⟩
theorem gs_62_in {f g : Nat → Int32} {k i : Nat} (h : i < k) : gs_62 f g k i = g i := if_pos h
theorem gs_62_out {f g : Nat → Int32} {k i : Nat} (h : k ≤ i) : gs_62 f g k i = f i := if_neg (by omega)
def gs_due (im : Nat → Int32) (i : Nat) : Int32 := if i % 2 = 0 then gs_many (i / 2 + 1) im 7 else gs_doubts (gs_many (i / 2 + 1) im)
def gs_ckF (W im : Nat → Int32) (i : Nat) : Bool := decide (¬ W i = gs_due im i)
def gs_ckA (W im : Nat → Int32) (M D : Nat) : Int32 := if gs_fst (gs_ckF W im) (min M D) = M ∧ gs_fst (gs_ckF W im) (min M D) = D then nI 0 else nI 1 + nI (gs_fst (gs_ckF W im) (min M D))
/-- how many nights are told -/
def gs_ckN (v x : Int32) : Nat := min v.toNatClampNeg (9999 - x.toNatClampNeg)
def gs_check (has : Int32) (W s im : Nat → Int32) (M : Nat) (v : Int32) : Int32 := if gs_in v (nI 1) (nI 30) = 0 then -1000000001 else if has = 0 then -1000000002 else gs_ckA W (gs_62 s im 2862) M (2 * gs_ckN v (im 2))
theorem gs_night_2 (s : Nat → Int32) : gs_night s 2 = s 2 + nI 1 := by
  have h : gs_raid (gs_step4 s) 2 = s 2 := by
    have h4 := gs_ke.step4 s 2 (by omega) (by omega)
    unfold gs_raid
    split
    · split
      · rw [pk_un (by omega), h4]
      · rw [pk_un (by omega), h4]
    · exact h4
  show upd (gs_raid (gs_step4 s)) 2 (gs_raid (gs_step4 s) 2 + nI 1) 2 = _
  rw [pk_us, h]
theorem gs_many_2 {s : Nat → Int32} {t : Nat} (h : s 2 = nI t) : ∀ k, gs_many k s 2 = nI (t + k)
  | 0 => h
  | k + 1 => by
    show gs_night (gs_many k s) 2 = _
    rw [gs_night_2, gs_many_2 h k, nI_add]; rfl
section
variable {d m : Nat} {I : sx_I} {rw : Nat → Nat → Option Nat} {ln : Nat → Nat} {K : sx_K}
theorem v_check135 {im : Nat → Int32} {M D : Nat} (hM : M ≤ 60) (hD : D ≤ 60) (hr : ∀ i, i < D → I 96 i = gs_due im i) (hk : K (some (.int (gs_ckA (I 95) im M D))) I (sx_run rw m ln)) :
    ∀ (r k : Nat) (I' : sx_I), k + r = min M D → (I' = I ∧ ∀ i, i < k → gs_ckF (I 95) im i = false) → sx_V 208 (d + 1) 0 0 K 135 [(0, .ref 78), (2, .int (nI M)), (3, .int (nI D)), (4, .int (nI k))] [] I' (sx_run rw m ln) := by
  have fin : ∀ k, k ≤ min M D → gs_fst (gs_ckF (I 95) im) (min M D) = k → (¬ nI k = nI M → K (some (.int (nI 1 + nI k))) I (sx_run rw m ln)) ∧ (nI k = nI M → (¬ nI k = nI D → K (some (.int (nI 1 + nI k))) I (sx_run rw m ln)) ∧ (nI k = nI D → K (some (.int (nI 0))) I (sx_run rw m ln))) := by
    intro k hk2 e
    unfold gs_ckA at hk
    rw [e] at hk
    refine ⟨fun h => ?_, fun h => ⟨fun h2 => ?_, fun h2 => ?_⟩⟩
    · rw [if_neg (fun q => h (by rw [q.1]))] at hk; exact hk
    · rw [if_neg (fun q => h2 (by rw [q.2]))] at hk; exact hk
    · rw [nI_eq (by omega) (by omega)] at h h2
      rw [if_pos ⟨h, h2⟩] at hk; exact hk
  refine sx_for (min M D) (fun I' h => ?_) (fun k I' hk2 h ih => ?_)
  · obtain ⟨rfl, hbef⟩ := h
    have f := fin _ (Nat.le_refl _) (gs_fst_none _ _ hbef)
    refine sx_go m208 60 rfl (fun VV CC hV hC => ?_)
    refine ⟨fun _ => f, fun (c1 : ¬ nI M ≤ nI (min M D)) => ⟨fun _ => f, fun (c2 : ¬ nI D ≤ nI (min M D)) => ?_⟩⟩
    exfalso
    rw [nI_leI (by omega) (by omega)] at c1 c2
    omega
  · obtain ⟨rfl, hbef⟩ := h
    refine sx_go m208 60 rfl (fun VV CC hV hC => ?_)
    refine ⟨fun (c1 : nI M ≤ nI k) => ?_, fun (c1 : ¬ nI M ≤ nI k) => ⟨fun (c2 : nI D ≤ nI k) => ?_, fun (c2 : ¬ nI D ≤ nI k) => ⟨k, ⟨rfl, by omega⟩, k, ⟨rfl, by omega⟩, fun (c3 : ¬ I' 95 k = I' 96 k) => ?_, fun (c3 : I' 95 k = I' 96 k) => hV _ _ _ _ _ _ _ ?_⟩⟩⟩
    · exfalso; rw [nI_leI (by omega) (by omega)] at c1; omega
    · exfalso; rw [nI_leI (by omega) (by omega)] at c2; omega
    · rw [hr k (by omega)] at c3
      exact fin k (by omega) (gs_fst_at _ _ k hk2 hbef (decide_eq_true c3))
    · rw [hr k (by omega)] at c3
      have := ih I' ⟨rfl, fun i hi => by
        rcases Nat.lt_or_ge i k with q | q
        · exact hbef i q
        · have : i = k := by omega
          subst this; exact decide_eq_false (fun h => h c3)⟩
      rw [nI_succ] at this
      exact this
theorem v_check64 {J : sx_I} {im : Nat → Int32} {n t v M : Nat} (hJ : J 79 = im) (hn : im 0 = nI n) (hn10 : n ≤ 10) (htx : gs_tx im) (ht : im 2 = nI t) (ht9 : t ≤ 9999) (hv1 : 1 ≤ v) (hv : v ≤ 30) (hM : M ≤ 60)
    (hk : ∀ I', (∀ a, a ≠ 79 → a ≠ 92 → a ≠ 93 → a ≠ 96 → I' a = J a) → K (some (.int (gs_ckA (J 95) im M (2 * min v (9999 - t))))) (sx_up I' 79 (gs_62 (gs_many (min v (9999 - t)) im) (J 81) 2862)) (sx_run rw m ln)) :
    ∀ (r k : Nat) (I' : sx_I), k + r = min v (9999 - t) → ((∀ a, a ≠ 79 → a ≠ 92 → a ≠ 93 → a ≠ 96 → I' a = J a) ∧ I' 79 = gs_many k im ∧ ∀ i, i < 2 * k → I' 96 i = gs_due im i) →
      sx_V 208 (d + 8) 0 0 K 64 [(0, .ref 78), (1, .int (nI v)), (2, .int (nI M)), (3, .int (nI (2 * k))), (4, .int (nI k))] [] I' (sx_run rw m ln) := by
  refine sx_for (min v (9999 - t)) (fun I' h => ?_) (fun k I' hk2 h ih => ?_)
  · obtain ⟨h1, h2, h3⟩ := h
    have e2 : I' 79 2 = nI (t + min v (9999 - t)) := by rw [h2, gs_many_2 ht]
    have e95 : I' 95 = J 95 := h1 95 (by decide) (by decide) (by decide) (by decide)
    have e81 : I' 81 = J 81 := h1 81 (by decide) (by decide) (by decide) (by decide)
    have hend : sx_V 208 (d + 8) 0 0 K 135 [(0, .ref 78), (2, .int (nI M)), (3, .int (nI (2 * min v (9999 - t)))), (4, .int (nI 0))] [] (sx_up I' 79 (gs_62 (I' 79) (I' 81) 2862)) (sx_run rw m ln) := by
      rw [h2, e81]
      refine v_check135 (d := d + 7) (im := im) hM (by omega) (fun i hi => ?_) ?_ (min M (2 * min v (9999 - t))) 0 _ (by omega) ⟨rfl, fun i hi => absurd hi (Nat.not_lt_zero i)⟩
      · rw [sx_up_ne (by decide)]; exact h3 i hi
      · rw [sx_up_ne (by decide), e95]; exact hk I' h1
    refine sx_go m208 60 rfl (fun VV CC hV hC => ?_)
    refine ⟨fun _ => hC _ _ _ _ _ (c_aside8179 (hV _ _ _ _ _ _ _ hend)), fun (c1 : ¬ nI v ≤ nI (min v (9999 - t))) => ⟨2, ⟨rfl, by omega⟩, fun _ => hC _ _ _ _ _ (c_aside8179 (hV _ _ _ _ _ _ _ hend)), fun (c2 : ¬ nI 9999 ≤ I' 79 2) => ?_⟩⟩
    exfalso
    rw [nI_leI (by omega) (by omega)] at c1
    rw [e2, nI_leI (by omega) (by omega)] at c2
    omega
  · obtain ⟨h1, h2, h3⟩ := h
    have e2 : I' 79 2 = nI (t + k) := by rw [h2, gs_many_2 ht]
    have hl := gs_lo.many hn hn10 k
    have hl2 := gs_lo.many hn hn10 (k + 1)
    refine sx_go m208 60 rfl (fun VV CC hV hC => ?_)
    refine ⟨fun (c1 : nI v ≤ nI k) => ?_, fun (c1 : ¬ nI v ≤ nI k) => ⟨2, ⟨rfl, by omega⟩, fun (c2 : nI 9999 ≤ I' 79 2) => ?_, fun (c2 : ¬ nI 9999 ≤ I' 79 2) => ?_⟩⟩
    · exfalso; rw [nI_leI (by omega) (by omega)] at c1; omega
    · exfalso; rw [e2, nI_leI (by omega) (by omega)] at c2; omega
    · refine hC _ _ _ _ _ (c_goesOn (n := n) (by rw [h2]; exact hl.1.trans hn) hn10 (by rw [h2]; exact gs_tx_lo hl htx) (fun I2 h4 => ?_))
      rw [h2] at h4
      have e4 : I2 79 = gs_many (k + 1) im := h4.at
      have h5 : ∀ a, a ≠ 79 → a ≠ 92 → a ≠ 93 → I2 a = I' a := fun a a1 a2 a3 => (h4 a a2 a3).trans (sx_up_ne a1)
      refine ⟨7, ⟨rfl, by omega⟩, 2 * k, ⟨rfl, by omega⟩, hC _ _ _ _ _ (c_doubts (n := n) (by rw [sx_up_ne (by decide), e4]; exact hl2.1.trans hn) hn10 ⟨2 * k + 1, ⟨nI_add _ _, by omega⟩, hV _ _ _ _ _ _ _ ?_⟩)⟩
      rw [sx_up_ne (a := 96) (i := 79) (by decide), e4, sx_up_same, sx_upup, h5 96 (by decide) (by decide) (by decide)]
      have := ih (sx_up I2 96 (upd (upd (I' 96) (2 * k) (gs_many (k + 1) im 7)) (2 * k + 1) (gs_doubts (gs_many (k + 1) im)))) ⟨fun a a1 a2 a3 a4 => ?_, ?_, fun i hi => ?_⟩
      · rw [nI_succ k, show nI (2 * (k + 1)) = nI (2 * k) + nI 2 from (nI_add _ _).symm] at this
        exact this
      · rw [sx_up_ne a4, h5 a a1 a2 a3]; exact h1 a a1 a2 a3 a4
      · rw [sx_up_ne (by decide), e4]
      · rw [sx_up_same]
        by_cases q1 : i = 2 * k + 1
        · subst q1
          rw [pk_us]
          unfold gs_due
          rw [if_neg (by omega), show (2 * k + 1) / 2 + 1 = k + 1 by omega]
        · rw [pk_un q1]
          by_cases q2 : i = 2 * k
          · subst q2
            rw [pk_us]
            unfold gs_due
            rw [if_pos (by omega), show 2 * k / 2 + 1 = k + 1 by omega]
          · rw [pk_un q2]
            exact h3 i (by omega)
theorem c_check {n t M : Nat} {v : Int32} (hw : I 78 29 = nI M) (hM : M ≤ 60) (hn : I 80 0 = nI n) (hn10 : n ≤ 10) (htx : gs_tx (I 80)) (ht : I 80 2 = nI t) (ht9 : t ≤ 9999)
    (hk : ∀ I', (∀ a, a ≠ 78 → a ≠ 81 → a ≠ 92 → a ≠ 93 → a ≠ 96 → I' a = I a) → I' 78 = upd (I 78) 29 (nI 0) → K (some (.int (gs_check (I 78 3) (I 95) (I 79) (I 80) M v))) I' (sx_run rw m ln)) : sx_C 208 (d + 9) [.ref 78, .int v] I (sx_run rw m ln) K := by
  refine sx_enter (by decide +kernel) (Nat.le_of_ble_eq_true rfl) (sx_go m208 60 rfl (fun VV CC hV hC => ?_))
  have bad : ∀ x, gs_check (I 78 3) (I 95) (I 79) (I 80) M v = x → K (some (.int x)) (sx_up I 78 (upd (I 78) 29 (nI 0))) (sx_run rw m ln) := by
    intro x h
    have := hk (sx_up I 78 (upd (I 78) 29 (nI 0))) (fun a a1 _ _ _ _ => sx_up_ne a1) (sx_up_same _ _ _)
    rw [h] at this
    exact this
  refine hC _ _ _ _ _ (c_isIn rfl (by decide +kernel) (by decide +kernel) ⟨fun (c1 : ¬ gs_in v (nI 1) (nI 30) = 0) => ⟨fun (c2 : ¬ I 78 3 = 0) => ?_, fun (c2 : I 78 3 = 0) => bad _ ?_⟩, fun (c1 : gs_in v (nI 1) (nI 30) = 0) => bad _ ?_⟩)
  · obtain ⟨c, rfl, h1, h2⟩ := gs_in_nat (by decide) c1 (by decide)
    refine hC _ _ _ _ _ (c_aside7981 (hC _ _ _ _ _ (c_aside8079 (hV _ _ _ _ _ _ _ ?_))))
    rw [hw]
    have e1 : ∀ f g, (sx_up (sx_up I 78 f) 81 g) 79 = I 79 := fun f g => (sx_up_ne (by decide)).trans (sx_up_ne (by decide))
    have e2 : ∀ f g, (sx_up (sx_up I 78 f) 81 g) 80 = I 80 := fun f g => (sx_up_ne (by decide)).trans (sx_up_ne (by decide))
    have e3 : ∀ f, (sx_up I 78 f) 79 = I 79 := fun f => sx_up_ne (by decide)
    have e4 : ∀ f, (sx_up I 78 f) 81 = I 81 := fun f => sx_up_ne (by decide)
    rw [e1, e2, e3, e4]
    have hag : ∀ i, i < 2862 → gs_62 (I 79) (I 80) 2862 i = I 80 i := fun i hi => gs_62_in hi
    have hnn : gs_62 (I 79) (I 80) 2862 0 = nI n := (hag 0 (by omega)).trans hn
    refine v_check64 (d := d + 1) (n := n) (t := t) (M := M) (v := c) (sx_up_same _ _ _) hnn hn10 (gs_tx_ag hag htx) ((hag 2 (by omega)).trans ht) ht9 h1 h2 hM (fun I' h => ?_) (min c (9999 - t)) 0 _ (by omega) ⟨fun _ _ _ _ _ => rfl, sx_up_same _ _ _, fun i hi => absurd hi (Nat.not_lt_zero i)⟩
    have f81 : ∀ f g h, (sx_up (sx_up (sx_up I 78 f) 81 g) 79 h) 81 = g := fun f g h => (sx_up_ne (by decide)).trans (sx_up_same _ _ _)
    have f95 : ∀ f g h, (sx_up (sx_up (sx_up I 78 f) 81 g) 79 h) 95 = I 95 := fun f g h => ((sx_up_ne (by decide)).trans (sx_up_ne (by decide))).trans (sx_up_ne (by decide))
    rw [f81, f95]
    have hres : gs_62 (gs_many (min c (9999 - t)) (gs_62 (I 79) (I 80) 2862)) (gs_62 (I 81) (I 79) 2862) 2862 = I 79 := by
      funext i
      rcases Nat.lt_or_ge i 2862 with q | q
      · rw [gs_62_in q, gs_62_in q]
      · rw [gs_62_out q, (gs_lo.many hnn hn10 _).2.2 i (by omega), gs_62_out q]
    rw [hres]
    have ea : gs_check (I 78 3) (I 95) (I 79) (I 80) M (nI c) = gs_ckA (I 95) (gs_62 (I 79) (I 80) 2862) M (2 * min c (9999 - t)) := by
      unfold gs_check gs_ckN
      rw [if_neg c1, if_neg c2, ht, nI_clamp (by omega), nI_clamp (by omega)]
    rw [ea] at hk
    refine hk _ (fun a a1 a2 a3 a4 a5 => ?_) ?_
    · by_cases q : a = 79
      · subst q; exact sx_up_same _ _ _
      · rw [sx_up_ne q, h a q a3 a4 a5, sx_up_ne q, sx_up_ne a2, sx_up_ne a1]
    · rw [sx_up_ne (by decide), h 78 (by decide) (by decide) (by decide) (by decide), sx_up_ne (by decide), sx_up_ne (by decide), sx_up_same]
  · unfold gs_check; rw [if_neg c1, if_pos c2]
  · unfold gs_check; rw [if_pos c1]
end
