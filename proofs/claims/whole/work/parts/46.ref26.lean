/-! ===== the reference: places copied; a slot laid ===== -/
abbrev gs_cpBad (p q c x y : Int32) : Prop := p < 0 ∨ q < 0 ∨ c < 0 ∨ x.toNatClampNeg < p.toNatClampNeg + c.toNatClampNeg ∨ y.toNatClampNeg < q.toNatClampNeg + c.toNatClampNeg
def gs_copy (S Z R : Nat → Int32) (a p b q c : Int32) : (Nat → Int32) × Int32 :=
  if gs_in a 0 (nI 3) = 0 ∨ gs_in b 0 (nI 3) = 0 then (R, -1000000001) else if S a.toNatClampNeg < 0 ∨ S b.toNatClampNeg < 0 then (R, -1000000011) else if ¬ S a.toNatClampNeg = S b.toNatClampNeg then (R, -1000000012)
  else if gs_cpBad p q c (Z a.toNatClampNeg) (Z b.toNatClampNeg) then (R, -1000000013) else (va_cpy R R (24 * a.toNatClampNeg + p.toNatClampNeg) (24 * b.toNatClampNeg + q.toNatClampNeg) c.toNatClampNeg, c)
theorem gs_cpl {p c z : Nat} (hp : p < 2 ^ 31) (hc : c < 2 ^ 31) (hz : z < 2 ^ 31) : lg_cmp ((nI p).toInt64 + (nI c).toInt64) (nI z).toInt64 ≤ 0 ↔ p + c ≤ z := by
  rw [lg_cmp_le, nI_l hp, nI_l hc, nI_l hz, lN_add, pk_lLE (by omega) (by omega)]
theorem gs_cpl2 {p c z : Nat} (hp : p < 2 ^ 31) (hc : c < 2 ^ 31) (hz : z < 2 ^ 31) : 0 < lg_cmp ((nI p).toInt64 + (nI c).toInt64) (nI z).toInt64 ↔ z < p + c := by
  rw [lg_cmp_gt, nI_l hp, nI_l hc, nI_l hz, lN_add, pk_lLT (by omega) (by omega)]
theorem gs_tp_cpy (f g : Nat → Int32) (s t : Nat) : ∀ k, gs_tp f t (fun i => g (s + i)) k = va_cpy g f s t k
  | 0 => by
    funext j
    exact (pk_cpy_out (by omega)).symm
  | k + 1 => by
    funext j
    show upd (gs_tp f t (fun i => g (s + i)) k) (t + k) (g (s + k)) j = _
    rw [gs_tp_cpy f g s t k]
    by_cases e : j = t + k
    · subst e
      rw [pk_us, pk_cpy_in (by omega) (by omega)]
      congr 1; omega
    · rw [pk_un e]
      by_cases h : t ≤ j ∧ j < t + k
      · rw [pk_cpy_in h.1 h.2, pk_cpy_in h.1 (by omega)]
      · rw [pk_cpy_out (by omega), pk_cpy_out (by omega)]
def gs_layA (I : sx_I) (s : Nat) (t : Int32) : sx_I := sx_up I 85 (upd (I 85) s t)
def gs_layB (I : sx_I) (s : Nat) (t k : Int32) : sx_I := sx_up I 86 (upd (I 86) s (if t = nI 1 then I 79 (12 + 5 * k.toNatClampNeg + 0) else k))
def gs_layC (I : sx_I) (s : Nat) (t k : Int32) : sx_I := sx_up I 87 (upd (I 87) s (if t = nI 1 then gs_worth (I 79 (12 + 5 * k.toNatClampNeg + 0)) (I 79 (12 + 5 * k.toNatClampNeg + 2)) else nI 0))
def gs_layD (I : sx_I) (s : Nat) (t k : Int32) : sx_I := if t = nI 2 then sx_up (sx_up I 88 (upd (I 88) s (I 83 k.toNatClampNeg))) 89 (gs_tp (I 89) (24 * s) (fun i => I 84 (24 * k.toNatClampNeg + i)) 24) else I
def gs_layI (I : sx_I) (s : Nat) (t k : Int32) : sx_I := gs_layD (gs_layC (gs_layB (gs_layA I s t) s t k) s t k) s t k
abbrev gs_layGood (s : Nat → Int32) (t k : Int32) : Prop := t = 0 ∨ t = nI 3 ∨ (t = nI 1 ∧ ¬ gs_in k 0 (s 0 - nI 1) = 0) ∨ (t = nI 2 ∧ ¬ gs_in k 0 (nI 3) = 0)
section
variable {d m : Nat} {I : sx_I} {rw : Nat → Nat → Option Nat} {ln : Nat → Nat} {K : sx_K}
theorem v_copy2 {J : sx_I} {R : Nat → Int32} {a p b q c : Nat} (hb : b < 4) (hq : q + c ≤ 24) (hJ : ∀ i, i < c → J 94 i = R (24 * a + p + i)) (hk : K (some (.int (nI c))) (sx_up J 84 (va_cpy R (J 84) (24 * a + p) (24 * b + q) c)) (sx_run rw m ln)) :
    ∀ (r k : Nat) (I : sx_I), k + r = c → I = sx_up J 84 (gs_tp (J 84) (24 * b + q) (fun i => R (24 * a + p + i)) k) → sx_V 200 (d + 2) 0 0 K 150 [(0, .ref 78), (3, .int (nI b)), (4, .int (nI q)), (5, .int (nI c)), (6, .int (nI k))] [] I (sx_run rw m ln) := by
  refine sx_for c (fun I h => ?_) (fun k I hk2 h ih => ?_)
  · rw [gs_tp_cpy] at h
    subst h
    refine sx_go m200 60 rfl (fun VV CC hV hC => ?_)
    exact ⟨fun _ => hk, fun c1 => absurd (nI_le (Nat.le_refl c) (by omega)) c1⟩
  · have e84 : I 84 = gs_tp (J 84) (24 * b + q) (fun i => R (24 * a + p + i)) k := by rw [h, sx_up_same]
    have e94 : I 94 k = R (24 * a + p + k) := by rw [h, sx_up_ne (by decide)]; exact hJ k hk2
    refine sx_go m200 60 rfl (fun VV CC hV hC => ?_)
    refine ⟨fun c1 => absurd c1 (nI_ge hk2 (by omega)), fun c1 => ⟨k, ⟨rfl, by omega⟩, 24 * b + q + k, ⟨by simp only [pk_mul, nI_add], by omega⟩, hV _ _ _ _ _ _ _ ?_⟩⟩
    have := ih (sx_up I 84 (upd (I 84) (24 * b + q + k) (I 94 k))) (by rw [e84, e94, h, sx_upup]; rfl)
    rw [nI_succ] at this
    exact this
theorem v_copy1 {a p b q c : Nat} (ha : a < 4) (hb : b < 4) (hp : p + c ≤ 24) (hq : q + c ≤ 24) (hk : ∀ f, K (some (.int (nI c))) (sx_up (sx_up I 94 f) 84 (va_cpy (I 84) (I 84) (24 * a + p) (24 * b + q) c)) (sx_run rw m ln)) :
    ∀ (r k : Nat) (I' : sx_I), k + r = c → I' = sx_up I 94 (gs_62 (I 94) (fun i => I 84 (24 * a + p + i)) k) → sx_V 200 (d + 2) 0 0 K 113 [(0, .ref 78), (1, .int (nI a)), (2, .int (nI p)), (3, .int (nI b)), (4, .int (nI q)), (5, .int (nI c)), (6, .int (nI k))] [] I' (sx_run rw m ln) := by
  refine sx_for c (fun I' h => ?_) (fun k I' hk2 h ih => ?_)
  · have e84 : I' 84 = I 84 := by rw [h, sx_up_ne (by decide)]
    refine sx_go m200 60 rfl (fun VV CC hV hC => ?_)
    refine ⟨fun _ => hV _ _ _ _ _ _ _ ?_, fun c1 => absurd (nI_le (Nat.le_refl c) (by omega)) c1⟩
    refine v_copy2 (J := I') (R := I 84) (a := a) (p := p) (b := b) (q := q) hb hq (fun i hi => ?_) ?_ c 0 I' (by omega) (by exact (sx_upself I' 84).symm)
    · rw [h, sx_up_same]; exact if_pos hi
    · rw [e84, h]; exact hk _
  · have e84 : I' 84 = I 84 := by rw [h, sx_up_ne (by decide)]
    have e94 : I' 94 = gs_62 (I 94) (fun i => I 84 (24 * a + p + i)) k := by rw [h, sx_up_same]
    refine sx_go m200 60 rfl (fun VV CC hV hC => ?_)
    refine ⟨fun c1 => absurd c1 (nI_ge hk2 (by omega)), fun c1 => ⟨24 * a + p + k, ⟨by simp only [pk_mul, nI_add], by omega⟩, k, ⟨rfl, by omega⟩, hV _ _ _ _ _ _ _ ?_⟩⟩
    have := ih (sx_up I' 94 (upd (I' 94) k (I' 84 (24 * a + p + k)))) (by
      rw [e84, e94, h, sx_upup]
      exact congrArg (sx_up I 94) (gs_62_s (I 94) (fun i => I 84 (24 * a + p + i)) k))
    rw [nI_succ] at this
    exact this
theorem c_copy {a p b q c : Int32} (hZ : ∀ j, j < 4 → ∃ c, I 83 j = nI c ∧ c ≤ 24) (hk : ∀ f, K (some (.int (gs_copy (I 82) (I 83) (I 84) a p b q c).2)) (sx_up (sx_up I 94 f) 84 (gs_copy (I 82) (I 83) (I 84) a p b q c).1) (sx_run rw m ln)) : sx_C 200 (d + 3) [.ref 78, .int a, .int p, .int b, .int q, .int c] I (sx_run rw m ln) K := by
  refine sx_enter (by decide +kernel) (Nat.le_of_ble_eq_true rfl) (sx_go m200 100 rfl (fun VV CC hV hC => ?_))
  generalize e : gs_copy (I 82) (I 83) (I 84) a p b q c = g at hk
  unfold gs_copy at e
  have bad : ∀ x, (I 84, x) = g → K (some (.int x)) I (sx_run rw m ln) := by
    intro x h
    have := sx_kq h.symm (hk (I 94))
    rw [sx_upself, sx_upself] at this
    exact this
  have b1 : (gs_in a 0 (nI 3) = 0 ∨ gs_in b 0 (nI 3) = 0) → K (some (.int (-1000000001))) I (sx_run rw m ln) := fun h => bad _ (by rw [if_pos h] at e; exact e)
  refine hC _ _ _ _ _ (c_isSheet ⟨fun (c1 : gs_in a 0 (nI 3) = 0) => b1 (Or.inl c1), fun (c1 : ¬ gs_in a 0 (nI 3) = 0) => hC _ _ _ _ _ (c_isSheet ⟨fun (c2 : ¬ gs_in b 0 (nI 3) = 0) => ?_, fun (c2 : gs_in b 0 (nI 3) = 0) => b1 (Or.inr c2)⟩)⟩)
  rw [if_neg (fun h => h.elim c1 c2)] at e
  obtain ⟨j, rfl, _, h3⟩ := gs_in_nat (a := 0) (by decide) c1 (by decide)
  obtain ⟨i, rfl, _, h4⟩ := gs_in_nat (a := 0) (by decide) c2 (by decide)
  obtain ⟨z, hz, hz24⟩ := hZ j (by omega)
  obtain ⟨y, hy, hy24⟩ := hZ i (by omega)
  rw [show (nI j).toNatClampNeg = j from nI_clamp (by omega), show (nI i).toNatClampNeg = i from nI_clamp (by omega)] at e
  have b2 : (I 82 j < 0 ∨ I 82 i < 0) → K (some (.int (-1000000011))) I (sx_run rw m ln) := fun h => bad _ (by rw [if_pos h] at e; exact e)
  refine ⟨j, ⟨rfl, by omega⟩, fun (c3 : I 82 j < 0) => b2 (Or.inl c3), fun (c3 : ¬ I 82 j < 0) => ⟨i, ⟨rfl, by omega⟩, fun (c4 : 0 ≤ I 82 i) => ⟨j, ⟨rfl, by omega⟩, i, ⟨rfl, by omega⟩, fun (c5 : I 82 j = I 82 i) => ?_, fun (c5 : ¬ I 82 j = I 82 i) => ?_⟩, fun (c4 : ¬ 0 ≤ I 82 i) => b2 (Or.inr (Int32.not_le.mp c4))⟩⟩
  · rw [if_neg (fun h => h.elim c3 (Int32.not_lt.mpr c4)), if_neg (fun h => h c5), hz, hy] at e
    have b3 : gs_cpBad p q c (nI z) (nI y) → K (some (.int (-1000000013))) I (sx_run rw m ln) := fun h => bad _ (by rw [if_pos h] at e; exact e)
    refine ⟨fun (c6 : p < 0) => b3 (Or.inl c6), fun (c6 : ¬ p < 0) => ⟨fun (c7 : q < 0) => b3 (Or.inr (Or.inl c7)), fun (c7 : ¬ q < 0) => ⟨fun (c8 : c < 0) => b3 (Or.inr (Or.inr (Or.inl c8))), fun (c8 : ¬ c < 0) => ?_⟩⟩⟩
    obtain ⟨p, rfl, hp⟩ := gs_nat c6
    obtain ⟨q, rfl, hq⟩ := gs_nat c7
    obtain ⟨c, rfl, hc⟩ := gs_nat c8
    have b4 : (z < p + c ∨ y < q + c) → K (some (.int (-1000000013))) I (sx_run rw m ln) := by
      intro h
      refine b3 (Or.inr (Or.inr (Or.inr ?_)))
      rw [nI_clamp hp, nI_clamp hq, nI_clamp hc, nI_clamp (by omega), nI_clamp (by omega)]
      exact h
    refine ⟨j, ⟨rfl, by omega⟩, fun (c9 : 0 < lg_cmp ((nI p).toInt64 + (nI c).toInt64) (I 83 j).toInt64) => b4 (Or.inl ?_), fun (c9 : ¬ 0 < lg_cmp ((nI p).toInt64 + (nI c).toInt64) (I 83 j).toInt64) => ⟨i, ⟨rfl, by omega⟩, fun (c10 : lg_cmp ((nI q).toInt64 + (nI c).toInt64) (I 83 i).toInt64 ≤ 0) => hV _ _ _ _ _ _ _ ?_, fun (c10 : ¬ lg_cmp ((nI q).toInt64 + (nI c).toInt64) (I 83 i).toInt64 ≤ 0) => b4 (Or.inr ?_)⟩⟩
    · rw [hz, gs_cpl2 hp hc (by omega)] at c9; exact c9
    · rw [hz, gs_cpl2 hp hc (by omega)] at c9
      rw [hy, gs_cpl hq hc (by omega)] at c10
      have nb : ¬ gs_cpBad (nI p) (nI q) (nI c) (nI z) (nI y) := by
        rintro (h | h | h | h | h)
        · exact c6 h
        · exact c7 h
        · exact c8 h
        · rw [nI_clamp hp, nI_clamp hc, nI_clamp (by omega)] at h; omega
        · rw [nI_clamp hq, nI_clamp hc, nI_clamp (by omega)] at h; omega
      rw [if_neg nb, nI_clamp hp, nI_clamp hq, nI_clamp hc] at e
      rw [← e] at hk
      exact v_copy1 (d := d + 1) (by omega) (by omega) (by omega) (by omega) hk c 0 I (by omega) (by rw [gs_62_0, sx_upself])
    · rw [hy, gs_cpl hq hc (by omega)] at c10; omega
  · rw [if_neg (fun h => h.elim c3 (Int32.not_lt.mpr c4)), if_pos c5] at e
    exact bad _ e
theorem v_lay150 {J : sx_I} {s k : Nat} {was : Int32} (hs : s < 5) (hk4 : k < 4) (hk : K (some (.int was)) (sx_up J 89 (gs_tp (J 89) (24 * s) (fun i => J 84 (24 * k + i)) 24)) (sx_run rw m ln)) :
    ∀ (r i : Nat) (I : sx_I), i + r = 24 → I = sx_up J 89 (gs_tp (J 89) (24 * s) (fun i => J 84 (24 * k + i)) i) → sx_V 202 (d + 2) 0 0 K 150 [(0, .ref 78), (1, .int (nI s)), (3, .int (nI k)), (5, .int was), (6, .int (nI i))] [] I (sx_run rw m ln) := by
  refine sx_for 24 (fun I h => ?_) (fun i I hk2 h ih => ?_)
  · subst h
    refine sx_go m202 60 rfl (fun VV CC hV hC => ?_)
    exact ⟨fun _ => hk, fun c1 => absurd (nI_le (Nat.le_refl 24) (by decide)) c1⟩
  · have e89 : I 89 = gs_tp (J 89) (24 * s) (fun i => J 84 (24 * k + i)) i := by rw [h, sx_up_same]
    have e84 : I 84 = J 84 := by rw [h, sx_up_ne (by decide)]
    refine sx_go m202 60 rfl (fun VV CC hV hC => ?_)
    refine ⟨fun c1 => absurd c1 (nI_ge hk2 (by decide)), fun c1 => ⟨24 * k + i, ⟨by simp only [pk_mul, nI_add], by omega⟩, 24 * s + i, ⟨by simp only [pk_mul, nI_add], by omega⟩, hV _ _ _ _ _ _ _ ?_⟩⟩
    have := ih (sx_up I 89 (upd (I 89) (24 * s + i) (I 84 (24 * k + i)))) (by rw [e89, e84, h, sx_upup]; rfl)
    rw [nI_succ] at this
    exact this
theorem v_lay130 {s : Nat} {t k was : Int32} (hs : s < 5) (h2 : t = nI 2 → ∃ j, k = nI j ∧ j < 4) (hk : K (some (.int was)) (gs_layD I s t k) (sx_run rw m ln)) :
    sx_V 202 (d + 2) 0 0 K 130 [(0, .ref 78), (1, .int (nI s)), (2, .int t), (3, .int k), (5, .int was)] [] I (sx_run rw m ln) := by
  unfold gs_layD at hk
  refine sx_go m202 60 rfl (fun VV CC hV hC => ?_)
  refine ⟨fun (c1 : ¬ t = nI 2) => ?_, fun (c1 : t = nI 2) => ?_⟩
  · rw [if_neg c1] at hk; exact hk
  · obtain ⟨j, rfl, hj⟩ := h2 c1
    rw [if_pos c1, nI_clamp (by omega)] at hk
    refine ⟨j, ⟨rfl, by omega⟩, s, ⟨rfl, by omega⟩, hV _ _ _ _ _ _ _ ?_⟩
    refine v_lay150 (d := d) (J := sx_up I 88 (upd (I 88) s (I 83 j))) hs hj ?_ 24 0 _ (by omega) ?_
    · rw [sx_up_ne (a := 88) (i := 89) (by decide), sx_up_ne (a := 88) (i := 84) (by decide)]
      exact hk
    · exact (sx_upself _ 89).symm
theorem v_lay110 {s : Nat} {t k was : Int32} (hs : s < 5) (h1 : t = nI 1 → ∃ j, k = nI j ∧ j < 10) (h2 : t = nI 2 → ∃ j, k = nI j ∧ j < 4) (hk : K (some (.int was)) (gs_layD (gs_layC I s t k) s t k) (sx_run rw m ln)) :
    sx_V 202 (d + 3) 0 0 K 110 [(0, .ref 78), (1, .int (nI s)), (2, .int t), (3, .int k), (5, .int was)] [] I (sx_run rw m ln) := by
  have h := v_lay130 (d := d + 1) hs h2 hk
  unfold gs_layC at h
  refine sx_go m202 60 rfl (fun VV CC hV hC => ?_)
  refine ⟨fun (c1 : ¬ t = nI 1) => ⟨s, ⟨rfl, by omega⟩, hV _ _ _ _ _ _ _ ?_⟩, fun (c1 : t = nI 1) => ?_⟩
  · rw [if_neg c1] at h; exact h
  · obtain ⟨j, rfl, hj⟩ := h1 c1
    rw [if_pos c1, nI_clamp (by omega)] at h
    exact hC _ _ _ _ _ (c_worth8 rfl hj ⟨s, ⟨rfl, by omega⟩, hV _ _ _ _ _ _ _ h⟩)
theorem v_lay74 {s : Nat} {t k : Int32} (hs : s < 5) (h1 : t = nI 1 → ∃ j, k = nI j ∧ j < 10) (h2 : t = nI 2 → ∃ j, k = nI j ∧ j < 4) (hk : K (some (.int (I 85 s))) (gs_layI I s t k) (sx_run rw m ln)) :
    sx_V 202 (d + 3) 0 0 K 74 [(0, .ref 78), (1, .int (nI s)), (2, .int t), (3, .int k)] [] I (sx_run rw m ln) := by
  have h := v_lay110 (d := d) hs h1 h2 hk
  unfold gs_layB at h
  refine sx_go m202 60 rfl (fun VV CC hV hC => ?_)
  refine ⟨s, ⟨rfl, by omega⟩, s, ⟨rfl, by omega⟩, fun (c1 : ¬ t = nI 1) => ⟨s, ⟨rfl, by omega⟩, hV _ _ _ _ _ _ _ ?_⟩, fun (c1 : t = nI 1) => ?_⟩
  · rw [if_neg c1] at h; exact h
  · obtain ⟨j, rfl, hj⟩ := h1 c1
    rw [if_pos c1, nI_clamp (by omega)] at h
    exact hC _ _ _ _ _ (c_of rfl rfl (by omega) ⟨s, ⟨rfl, by omega⟩, hV _ _ _ _ _ _ _ h⟩)
theorem v_lay41 {n : Nat} {a t k g : Int32} (hn : I 79 0 = nI n) (hn10 : n ≤ 10) (hg : ¬ g = 0 ↔ gs_layGood (I 79) t k) (hb : (gs_in a 0 (nI 4) = 0 ∨ ¬ gs_layGood (I 79) t k) → K (some (.int (-1000000001))) I (sx_run rw m ln)) (hc : ¬ gs_in a 0 (nI 4) = 0 → gs_layGood (I 79) t k → (t = nI 2 ∧ I 82 k.toNatClampNeg < 0) → K (some (.int (-1000000011))) I (sx_run rw m ln))
    (hk : ¬ gs_in a 0 (nI 4) = 0 → gs_layGood (I 79) t k → ¬ (t = nI 2 ∧ I 82 k.toNatClampNeg < 0) → K (some (.int (I 85 a.toNatClampNeg))) (gs_layI I a.toNatClampNeg t k) (sx_run rw m ln)) :
    sx_V 202 (d + 4) 0 0 K 41 [(0, .ref 78), (1, .int a), (2, .int t), (3, .int k), (4, .int g)] [] I (sx_run rw m ln) := by
  refine sx_go m202 60 rfl (fun VV CC hV hC => ?_)
  refine hC _ _ _ _ _ (c_isSlot ⟨fun (c1 : gs_in a 0 (nI 4) = 0) => hb (Or.inl c1), fun (c1 : ¬ gs_in a 0 (nI 4) = 0) => ⟨fun (c2 : ¬ g = 0) => ?_, fun (c2 : g = 0) => hb (Or.inr (fun h => hg.mpr h c2))⟩⟩)
  have hgood := hg.mp c2
  obtain ⟨s, rfl, _, h3⟩ := gs_in_nat (a := 0) (by decide) c1 (by decide)
  have h1 : t = nI 1 → ∃ j, k = nI j ∧ j < 10 := by
    intro e
    rcases hgood with h | h | h | h
    · rw [e] at h; exact absurd h (by decide +kernel)
    · rw [e] at h; exact absurd h (by decide +kernel)
    · obtain ⟨j, h4, h5⟩ := gs_guard hn hn10 h.2
      exact ⟨j, h4, by omega⟩
    · rw [e] at h; exact absurd h.1 (by decide +kernel)
  have h2 : t = nI 2 → ∃ j, k = nI j ∧ j < 4 := by
    intro e
    rcases hgood with h | h | h | h
    · rw [e] at h; exact absurd h (by decide +kernel)
    · rw [e] at h; exact absurd h (by decide +kernel)
    · rw [e] at h; exact absurd h.1 (by decide +kernel)
    · obtain ⟨j, h4, _, h5⟩ := gs_in_nat (a := 0) (by decide) h.2 (by decide)
      exact ⟨j, h4, by omega⟩
  have hk := hk c1 hgood
  have hc := hc c1 hgood
  rw [nI_clamp (by omega)] at hk
  refine ⟨fun (c3 : ¬ t = nI 2) => hV _ _ _ _ _ _ _ (v_lay74 (d := d + 1) (by omega) h1 h2 (hk (fun h => c3 h.1))), fun (c3 : t = nI 2) => ?_⟩
  obtain ⟨j, rfl, hj⟩ := h2 c3
  rw [nI_clamp (by omega)] at hk hc
  exact ⟨j, ⟨rfl, by omega⟩, fun (c4 : 0 ≤ I 82 j) => hV _ _ _ _ _ _ _ (v_lay74 (d := d + 1) (by omega) h1 h2 (hk (fun h => absurd h.2 (Int32.not_lt.mpr c4)))), fun (c4 : ¬ 0 ≤ I 82 j) => hc ⟨c3, Int32.not_le.mp c4⟩⟩
theorem c_lay {n : Nat} {a t k : Int32} (hn : I 79 0 = nI n) (hn10 : n ≤ 10) (hb : (gs_in a 0 (nI 4) = 0 ∨ ¬ gs_layGood (I 79) t k) → K (some (.int (-1000000001))) I (sx_run rw m ln)) (hc : ¬ gs_in a 0 (nI 4) = 0 → gs_layGood (I 79) t k → (t = nI 2 ∧ I 82 k.toNatClampNeg < 0) → K (some (.int (-1000000011))) I (sx_run rw m ln))
    (hk : ¬ gs_in a 0 (nI 4) = 0 → gs_layGood (I 79) t k → ¬ (t = nI 2 ∧ I 82 k.toNatClampNeg < 0) → K (some (.int (I 85 a.toNatClampNeg))) (gs_layI I a.toNatClampNeg t k) (sx_run rw m ln)) :
    sx_C 202 (d + 4) [.ref 78, .int a, .int t, .int k] I (sx_run rw m ln) K := by
  have yes : gs_layGood (I 79) t k → sx_V 202 (d + 4) 0 0 K 41 [(0, .ref 78), (1, .int a), (2, .int t), (3, .int k), (4, .int (nI 1))] [] I (sx_run rw m ln) := fun h => v_lay41 (d := d) hn hn10 ⟨fun _ => h, fun _ => by decide +kernel⟩ hb hc hk
  have no : ¬ gs_layGood (I 79) t k → sx_V 202 (d + 4) 0 0 K 41 [(0, .ref 78), (1, .int a), (2, .int t), (3, .int k), (4, .int (nI 0))] [] I (sx_run rw m ln) := fun h => v_lay41 (d := d) hn hn10 ⟨fun q => absurd rfl q, fun q => absurd q h⟩ hb hc hk
  refine sx_enter (by decide +kernel) (Nat.le_of_ble_eq_true rfl) (sx_go m202 60 rfl (fun VV CC hV hC => ?_))
  refine ⟨fun (c1 : t = 0) => hV _ _ _ _ _ _ _ (yes (Or.inl c1)), fun (c1 : ¬ t = 0) => ⟨fun (c2 : t = nI 3) => hV _ _ _ _ _ _ _ (yes (Or.inr (Or.inl c2))), fun (c2 : ¬ t = nI 3) => ⟨fun (c3 : ¬ t = nI 1) => ⟨fun (c4 : ¬ t = nI 2) => hV _ _ _ _ _ _ _ (no ?_), fun (c4 : t = nI 2) => hC _ _ _ _ _ (c_isSheet ⟨fun (c5 : gs_in k 0 (nI 3) = 0) => hV _ _ _ _ _ _ _ (no ?_), fun (c5 : ¬ gs_in k 0 (nI 3) = 0) => hV _ _ _ _ _ _ _ (yes (Or.inr (Or.inr (Or.inr ⟨c4, c5⟩))))⟩)⟩, fun (c3 : t = nI 1) => hC _ _ _ _ _ (c_isGuard8 ⟨fun (c4 : ¬ gs_in k 0 (I 79 0 - nI 1) = 0) => hV _ _ _ _ _ _ _ (yes (Or.inr (Or.inr (Or.inl ⟨c3, c4⟩)))), fun (c4 : gs_in k 0 (I 79 0 - nI 1) = 0) => ⟨fun (c5 : ¬ t = nI 2) => hV _ _ _ _ _ _ _ (no ?_), fun (c5 : t = nI 2) => absurd (c3.symm.trans c5) (by decide +kernel)⟩⟩)⟩⟩⟩
  · rintro (h | h | h | h)
    · exact c1 h
    · exact c2 h
    · exact c3 h.1
    · exact c4 h.1
  · rintro (h | h | h | h)
    · exact c1 h
    · exact c2 h
    · exact c3 h.1
    · exact h.2 c5
  · rintro (h | h | h | h)
    · exact c1 h
    · exact c2 h
    · exact h.2 c4
    · exact c5 h.1
end
