/-! ===== the class: the reader's places; numbers ===== -/
def gy_b5 (T : Nat → Nat) (n : Nat) (I : sx_I) : Prop := n ≤ 96 ∧ ∀ i, i < n → I 50 i = gy_sb (T i) ∧ T i < 256
section
variable {d m : Nat} {I I0 : sx_I} {rw : Nat → Nat → Option Nat} {ln : Nat → Nat} {K : sx_K} {T : Nat → Nat} {n w br bg : Nat} {S : List Nat} {o : List (Nat × Nat)} {due : Bool} {cmp : Nat → Int32} {key : Int32}
theorem v1_blanks (hT : gy_b5 T n I) : ∀ (r p : Nat), p + r = n → K (some (.int (nI (gy_bl T r p)))) I (sx_run rw m ln) → sx_V 35 (d + 2) 0 0 K 2 [(0, .ref 50), (2, .int (nI n)), (3, .int (nI p))] [] I (sx_run rw m ln)
  | r, p, hpr, hk => by
    have hn := hT.1
    refine sx_go m35 100 rfl (fun VV CC hV hC => ?_)
    refine ⟨fun (c : nI n ≤ nI p) => ?_, fun (c : ¬ nI n ≤ nI p) => ?_⟩
    · rw [nI_leI (by omega) (by omega)] at c
      have e : r = 0 := by omega
      subst e; exact hk
    · rw [nI_leI (by omega) (by omega)] at c
      obtain ⟨e1, l1⟩ := hT.2 p (by omega)
      refine ⟨p, ⟨rfl, by omega⟩, hC _ _ _ _ _ (c1_sortOf (d := d) e1 l1 ?_)⟩
      have z0 : nI (gy_so (T p)) = 0 ↔ gy_so (T p) = 0 := nI_eq (b := 0) (by have := gy_so4 (T p); omega) (by omega)
      obtain ⟨r', er⟩ : ∃ r', r = r' + 1 := ⟨r - 1, by omega⟩
      subst er
      refine ⟨fun (c2 : ¬ nI (gy_so (T p)) = 0) => ?_, fun (c2 : nI (gy_so (T p)) = 0) => ?_⟩
      · have e : gy_bl T (r' + 1) p = p := if_neg (fun z => c2 (z0.mpr (gy_so0.mpr z)))
        rw [e] at hk; exact hk
      · have e : gy_bl T (r' + 1) p = gy_bl T r' (p + 1) := if_pos (gy_so0.mp (z0.mp c2))
        rw [e] at hk
        have := v1_blanks hT r' (p + 1) (by omega) hk
        rw [nI_succ] at this
        exact hV _ _ _ _ _ _ _ this
theorem c1_blanks {p : Nat} {x y : Int32} (hT : gy_b5 T n I) (hx : x = nI p) (hy : y = nI n) (hp : p ≤ n) (hk : K (some (.int (nI (gy_bl T (n - p) p)))) I (sx_run rw m ln)) : sx_C 35 (d + 2) [.ref 50, .int x, .int y] I (sx_run rw m ln) K := by
  subst hx; subst hy
  refine sx_enter (by decide +kernel) (Nat.le_of_ble_eq_true rfl) (sx_go m35 100 rfl (fun VV CC hV hC => hV _ _ _ _ _ _ _ ?_))
  exact v1_blanks hT (n - p) p (by omega) hk
theorem v1_endOf {s : Nat} (hT : gy_b5 T n I) (hs : s < 4) : ∀ (r p : Nat), p + r = n → K (some (.int (nI (if s = 3 then p else gy_rn T s r p)))) I (sx_run rw m ln) → sx_V 36 (d + 2) 0 0 K 19 [(0, .ref 50), (2, .int (nI n)), (3, .int (nI s)), (4, .int (nI p))] [] I (sx_run rw m ln)
  | r, p, hpr, hk => by
    have hn := hT.1
    refine sx_go m36 100 rfl (fun VV CC hV hC => ?_)
    have z3 : nI s = nI 3 ↔ s = 3 := nI_eq (by omega) (by omega)
    refine ⟨fun (c3 : nI s = nI 3) => ?_, fun (c3 : ¬ nI s = nI 3) => ?_⟩
    · rw [if_pos (z3.mp c3)] at hk; exact hk
    · rw [if_neg (fun z => c3 (z3.mpr z))] at hk
      refine ⟨fun (c : nI n ≤ nI p) => ?_, fun (c : ¬ nI n ≤ nI p) => ?_⟩
      · rw [nI_leI (by omega) (by omega)] at c
        have e : r = 0 := by omega
        subst e; exact hk
      · rw [nI_leI (by omega) (by omega)] at c
        obtain ⟨e1, l1⟩ := hT.2 p (by omega)
        refine ⟨p, ⟨rfl, by omega⟩, hC _ _ _ _ _ (c1_sortOf (d := d) e1 l1 ?_)⟩
        have zs : nI (gy_so (T p)) = nI s ↔ gy_so (T p) = s := nI_eq (by have := gy_so4 (T p); omega) (by omega)
        obtain ⟨r', er⟩ : ∃ r', r = r' + 1 := ⟨r - 1, by omega⟩
        subst er
        refine ⟨fun (c2 : ¬ nI (gy_so (T p)) = nI s) => ?_, fun (c2 : nI (gy_so (T p)) = nI s) => ?_⟩
        · have e : gy_rn T s (r' + 1) p = p := if_neg (fun z => c2 (zs.mpr z))
          rw [e] at hk; exact hk
        · have e : gy_rn T s (r' + 1) p = gy_rn T s r' (p + 1) := if_pos (zs.mp c2)
          rw [e] at hk
          have := v1_endOf hT hs r' (p + 1) (by omega) (by rw [if_neg (fun z => c3 (z3.mpr z))]; exact hk)
          rw [nI_succ] at this
          exact hV _ _ _ _ _ _ _ this
theorem c1_endOf {p : Nat} {x y : Int32} (hT : gy_b5 T n I) (hx : x = nI p) (hy : y = nI n) (hp : p ≤ n) (hk : K (some (.int (nI (gy_ke T n p)))) I (sx_run rw m ln)) : sx_C 36 (d + 2) [.ref 50, .int x, .int y] I (sx_run rw m ln) K := by
  subst hx; subst hy
  have hn := hT.1
  refine sx_enter (by decide +kernel) (Nat.le_of_ble_eq_true rfl) (sx_go m36 100 rfl (fun VV CC hV hC => ?_))
  refine ⟨fun (c : nI p < nI n) => ?_, fun (c : ¬ nI p < nI n) => ?_⟩
  · rw [nI_ltI (by omega) (by omega)] at c
    obtain ⟨e1, l1⟩ := hT.2 p c
    refine ⟨p, ⟨rfl, by omega⟩, hC _ _ _ _ _ (c1_sortOf (d := d) e1 l1 (hV _ _ _ _ _ _ _ ?_))⟩
    have := v1_endOf (d := d) (K := K) (rw := rw) (m := m) (ln := ln) (s := gy_so (T p)) hT (gy_so4 _) (n - (p + 1)) (p + 1) (by omega) (by
      have e : gy_ke T n p = gy_to T n p := if_pos c
      rw [e] at hk; exact hk)
    rw [nI_succ] at this
    exact this
  · rw [nI_ltI (by omega) (by omega)] at c
    have e : gy_ke T n p = n := (if_neg (by omega)).trans (by omega)
    rw [e] at hk; exact hk
theorem v1_num {p q : Nat} (hT : gy_b5 T n I) (hq : q ≤ n) (hlen : q - p ≤ 4) (hdig : ∀ i, i < q - p → gy_so (T (p + i)) = 2)
    (h : gy_rd I0 key S o w br bg due cmp I) (hb : o.length + S.length < 96) (h3 : gy_n3 S ≤ bg) (h8 : bg ≤ 8)
    (h1 : ∀ J, gy_rd I0 key (gy_eb S ((0, gy_val T p (q - p)) :: o) bg).1 (gy_eb S ((0, gy_val T p (q - p)) :: o) bg).2.1 (w + 1) br (gy_eb S ((0, gy_val T p (q - p)) :: o) bg).2.2 false cmp J → K (some (.int (nI 1))) J (sx_run rw m ln)) :
    ∀ (r k : Nat), p + k + r = q → sx_V 40 (d + 4) 0 0 K 15 [(0, .ref 46), (1, .ref 50), (3, .int (nI q)), (4, .int (nI (gy_val T p k))), (5, .int (nI (p + k)))] [] I (sx_run rw m ln)
  | r, k, hkr => by
    have hn := hT.1
    have hv : gy_val T p k ≤ 9999 := by
      have := gy_val_lt T p k (fun i hi => (gy_so2.mp (hdig i (by omega))).2)
      have h2 : 10 ^ k ≤ 10 ^ 4 := Nat.pow_le_pow_right (by decide) (by omega)
      exact Nat.le_of_lt_succ (Nat.lt_of_lt_of_le this h2)
    refine sx_go m40 100 rfl (fun VV CC hV hC => ?_)
    refine ⟨fun (c : nI q ≤ nI (p + k)) => ?_, fun (c : ¬ nI q ≤ nI (p + k)) => ?_⟩
    · rw [nI_leI (by omega) (by omega)] at c
      have ek : k = q - p := by omega
      subst ek
      exact hC _ _ _ _ _ (c1_takePiece (d := d) (u := 0) rfl h hb h3 h8 (fun J hJ => ⟨Or.inr rfl, h1 J hJ⟩))
    · rw [nI_leI (by omega) (by omega)] at c
      obtain ⟨r', er⟩ : ∃ r', r = r' + 1 := ⟨r - 1, by omega⟩
      subst er
      obtain ⟨e1, l1⟩ := hT.2 (p + k) (by omega)
      have hd := gy_so2.mp (hdig k (by omega))
      have e2 : I 50 (p + k) = nI (T (p + k)) := e1.trans (if_pos (by omega))
      have := v1_num hT hq hlen hdig h hb h3 h8 h1 r' (k + 1) (by omega)
      rw [show p + (k + 1) = (p + k) + 1 by omega, nI_succ] at this
      have ev : nI 10 * nI (gy_val T p k) + (I 50 (p + k) - nI 48) = nI (gy_val T p (k + 1)) := by
        rw [e2, pk_mul, pk_sub (by omega), nI_add]; rfl
      rw [← ev] at this
      exact ⟨p + k, ⟨rfl, by omega⟩, hV _ _ _ _ _ _ _ this⟩
theorem c1_takesNumber {p q : Nat} {x y : Int32} (hx : x = nI p) (hy : y = nI q) (hT : gy_b5 T n I) (hpq : p < q) (hq : q ≤ n) (hdig : ∀ i, i < q - p → gy_so (T (p + i)) = 2)
    (h : gy_rd I0 key S o w br bg due cmp I) (hb : o.length + S.length < 96) (h3 : gy_n3 S ≤ bg) (h8 : bg ≤ 8)
    (h0 : 4 < q - p → K (some (.int (nI 0))) I (sx_run rw m ln))
    (h1 : q - p ≤ 4 → ∀ J, gy_rd I0 key (gy_eb S ((0, gy_val T p (q - p)) :: o) bg).1 (gy_eb S ((0, gy_val T p (q - p)) :: o) bg).2.1 (w + 1) br (gy_eb S ((0, gy_val T p (q - p)) :: o) bg).2.2 false cmp J → K (some (.int (nI 1))) J (sx_run rw m ln)) :
    sx_C 40 (d + 4) [.ref 46, .ref 50, .int x, .int y] I (sx_run rw m ln) K := by
  subst hx; subst hy
  have hn := hT.1
  have es : nI q - nI p = nI (q - p) := pk_sub (by omega)
  refine sx_enter (by decide +kernel) (Nat.le_of_ble_eq_true rfl) (sx_go m40 100 rfl (fun VV CC hV hC => ?_))
  refine ⟨fun (c : nI q - nI p ≤ nI 4) => ?_, fun (c : ¬ nI q - nI p ≤ nI 4) => ⟨Or.inl rfl, h0 ?_⟩⟩
  · rw [es, nI_leI (by omega) (by omega)] at c
    exact hV _ _ _ _ _ _ _ (v1_num hT hq c hdig h hb h3 h8 (h1 c) (q - p) 0 (by omega))
  · rw [es, nI_leI (by omega) (by omega)] at c
    omega
end
