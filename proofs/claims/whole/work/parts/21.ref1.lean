/-! ===== the reference's small methods; what a border's row says ===== -/
theorem sx_up_same (I : sx_I) (a : Nat) (f : Nat → Int32) : sx_up I a f a = f := if_pos rfl
theorem sx_upup (I : sx_I) (a : Nat) (f g : Nat → Int32) : sx_up (sx_up I a f) a g = sx_up I a g := by
  funext i
  unfold sx_up
  by_cases h : i = a
  · rw [if_pos h, if_pos h]
  · rw [if_neg h, if_neg h, if_neg h]
theorem sx_upself (I : sx_I) (a : Nat) : sx_up I a (I a) = I := by
  funext i
  unfold sx_up
  by_cases h : i = a
  · rw [if_pos h, h]
  · rw [if_neg h]
theorem sx_kk {K : sx_K} {x y : Int32} {I : sx_I} {G : sx_G} (e : x = y) (h : K (some (.int y)) I G) : K (some (.int x)) I G := e ▸ h
theorem gs_cl (x : Int32) : lg_cmp x.toInt64 x.toInt64 = lg_cmp x.toInt64 x.toInt64 := rfl
theorem gs_wlt (a b : Int32) : a.toInt64 < b.toInt64 ↔ a < b := by
  rw [Int64.lt_iff_toInt_lt, Int32.toInt_toInt64, Int32.toInt_toInt64, Int32.lt_iff_toInt_lt]
theorem gs_cmp_lt (a b : Int32) : lg_cmp a.toInt64 b.toInt64 < 0 ↔ a < b := by
  unfold lg_cmp
  by_cases h1 : a.toInt64 > b.toInt64
  · rw [if_pos h1]
    have := (gs_wlt b a).mp h1
    constructor
    · intro h; exact absurd h (by decide +kernel)
    · intro h; exact absurd h (Int32.not_lt.mpr (Int32.le_of_lt this))
  · rw [if_neg h1]
    by_cases h2 : a.toInt64 = b.toInt64
    · rw [if_pos h2]
      constructor
      · intro h; exact absurd h (by decide +kernel)
      · intro h; have := (gs_wlt a b).mpr h; rw [h2] at this; exact (Int64.lt_irrefl this).elim
    · rw [if_neg h2]
      constructor
      · intro _
        rw [← gs_wlt]
        rw [Int64.lt_iff_toInt_lt]
        have h3 : ¬ b.toInt64.toInt < a.toInt64.toInt := fun h => h1 (Int64.lt_iff_toInt_lt.mpr h)
        have h4 : a.toInt64.toInt ≠ b.toInt64.toInt := fun h => h2 (Int64.toInt_inj.mp h)
        omega
      · intro _; decide +kernel
theorem gs_cmp_gt (a b : Int32) : 0 < lg_cmp a.toInt64 b.toInt64 ↔ b < a := by
  unfold lg_cmp
  by_cases h1 : a.toInt64 > b.toInt64
  · rw [if_pos h1]
    have := (gs_wlt b a).mp h1
    exact ⟨fun _ => this, fun _ => by decide +kernel⟩
  · rw [if_neg h1]
    have h3 : ¬ b < a := fun h => h1 ((gs_wlt b a).mpr h)
    by_cases h2 : a.toInt64 = b.toInt64
    · rw [if_pos h2]; exact ⟨fun h => absurd h (by decide +kernel), fun h => absurd h h3⟩
    · rw [if_neg h2]; exact ⟨fun h => absurd h (by decide +kernel), fun h => absurd h h3⟩
def gs_wi (v m : Int32) : Int32 := if v < 0 then nI 0 else if m < v then m else v
def gs_off (a b : Int32) : Int32 := if a < b then b - a else a - b
def gs_on (v : Int32) : Int32 := if v < 0 then -1000000005 else v
def gs_draw (z : Int32) : Int32 := z * nI 1103515245 + nI 12345
def gs_dv (z : Int32) : Int32 := (z.toUInt32 >>> ((nI 8).toUInt32 &&& Int32.toUInt32 31)).toInt32
def gs_isOf (own kind : Int32) : Int32 := if own = kind ∨ kind = 0 ∨ (kind = nI 1 ∧ own = nI 3) ∨ (kind = nI 2 ∧ own = nI 4) then nI 1 else nI 0
def gs_fst (p : Nat → Bool) : Nat → Nat
  | 0 => 0
  | n + 1 => if gs_fst p n < n then gs_fst p n else if p n = true then n else n + 1
theorem gs_fst_le (p : Nat → Bool) : ∀ n, gs_fst p n ≤ n
  | 0 => Nat.le_refl 0
  | n + 1 => by
    have ih := gs_fst_le p n
    unfold gs_fst
    split
    · omega
    · split <;> omega
theorem gs_fst_none (p : Nat → Bool) : ∀ n, (∀ i, i < n → p i = false) → gs_fst p n = n
  | 0, _ => rfl
  | n + 1, h => by
    have ih := gs_fst_none p n (fun i hi => h i (by omega))
    unfold gs_fst
    rw [if_neg (by omega), if_neg (by rw [h n (by omega)]; decide)]
theorem gs_fst_at (p : Nat → Bool) : ∀ (n k : Nat), k < n → (∀ i, i < k → p i = false) → p k = true → gs_fst p n = k
  | 0, k, h, _, _ => absurd h (Nat.not_lt_zero k)
  | n + 1, k, h, h1, h2 => by
    unfold gs_fst
    by_cases e : k = n
    · subst e
      rw [gs_fst_none p k h1, if_neg (by omega), if_pos h2]
    · rw [gs_fst_at p n k (by omega) h1 h2, if_pos (by omega)]
theorem gs_fst_lt (p : Nat → Bool) : ∀ n, gs_fst p n < n → p (gs_fst p n) = true
  | 0, h => absurd h (Nat.not_lt_zero _)
  | n + 1, h => by
    unfold gs_fst at h ⊢
    split
    · rename_i q; exact gs_fst_lt p n q
    · rename_i q
      rw [if_neg q] at h
      split
      · rename_i q2; exact q2
      · rename_i q2; rw [if_neg q2] at h; omega
/-- whose a post is, by the guards' numbers: the number, or as many as there are -/
def gs_who (s : Nat → Int32) (n : Nat) (p : Int32) : Nat := gs_fst (fun k => decide (s (12 + 5 * k + 1) = p)) n
def gs_whoV (s : Nat → Int32) (n : Nat) (p : Int32) : Int32 := if gs_who s n p < n then nI (gs_who s n p) else -1
def gs_set (s : Nat → Int32) (k w : Nat) (v : Int32) : Nat → Int32 := upd s (12 + 5 * k + w) v
def gs_comes (s : Nat → Int32) (n : Nat) (kind post wear : Int32) : Nat → Int32 := gs_set (gs_set (gs_set (gs_set (gs_set (upd s 0 (nI (n + 1))) n 0 kind) n 1 post) n 2 wear) n 3 (nI 0)) n 4 (nI 1)
section
variable {d m : Nat} {I : sx_I} {rw : Nat → Nat → Option Nat} {ln : Nat → Nat} {K : sx_K}
theorem c_isIn {v a b : Int32} {x y z : Int64} {G : sx_G} (hx : x = v.toInt64) (hy : y = a.toInt64) (hz : z = b.toInt64) (hk : K (some (.int (gs_in v a b))) I G) : sx_C 113 (d + 1) [.long x, .long y, .long z] I G K := by
  refine sx_enter (by decide +kernel) (Nat.le_of_ble_eq_true rfl) (sx_go m113 40 rfl (fun VV CC hV hC => ?_))
  subst hx; subst hy; subst hz
  refine ⟨fun c1 => ⟨Or.inl rfl, sx_kk (if_neg ?_).symm hk⟩, fun c1 => ⟨fun c2 => ⟨Or.inl rfl, sx_kk (if_neg ?_).symm hk⟩, fun c2 => ⟨Or.inr rfl, sx_kk (if_pos ?_).symm hk⟩⟩⟩
  · exact fun h => absurd ((gs_cmp_lt v a).mp c1) (Int32.not_lt.mpr h.1)
  · exact fun h => absurd ((gs_cmp_gt v b).mp c2) (Int32.not_lt.mpr h.2)
  · exact ⟨Int32.not_lt.mp (fun h => c1 ((gs_cmp_lt v a).mpr h)), Int32.not_lt.mp (fun h => c2 ((gs_cmp_gt v b).mpr h))⟩
theorem c_orNone {v : Int32} {G : sx_G} (hk : K (some (.int (gs_on v))) I G) : sx_C 114 (d + 1) [.int v] I G K := by
  refine sx_enter (by decide +kernel) (Nat.le_of_ble_eq_true rfl) (sx_go m114 40 rfl (fun VV CC hV hC => ?_))
  exact ⟨fun c1 => sx_kk (if_neg (Int32.not_lt.mpr c1)).symm hk, fun c1 => sx_kk (if_pos (Int32.not_le.mp c1)).symm hk⟩
theorem c_within {v b : Int32} {G : sx_G} (hk : K (some (.int (gs_wi v b))) I G) : sx_C 115 (d + 1) [.int v, .int b] I G K := by
  refine sx_enter (by decide +kernel) (Nat.le_of_ble_eq_true rfl) (sx_go m115 40 rfl (fun VV CC hV hC => ?_))
  refine ⟨fun c1 => ⟨fun c2 => sx_kk ?_ hk, fun c2 => sx_kk ?_ hk⟩, fun c1 => sx_kk ?_ hk⟩
  · unfold gs_wi; rw [if_neg (Int32.not_lt.mpr c1), if_neg (Int32.not_lt.mpr c2)]
  · unfold gs_wi; rw [if_neg (Int32.not_lt.mpr c1), if_pos (Int32.not_le.mp c2)]
  · unfold gs_wi; rw [if_pos (Int32.not_le.mp c1)]
theorem c_off {a b : Int32} {G : sx_G} (hk : K (some (.int (gs_off a b))) I G) : sx_C 116 (d + 1) [.int a, .int b] I G K := by
  refine sx_enter (by decide +kernel) (Nat.le_of_ble_eq_true rfl) (sx_go m116 40 rfl (fun VV CC hV hC => ?_))
  exact ⟨fun c1 => sx_kk (if_neg (Int32.not_lt.mpr c1)).symm hk, fun c1 => sx_kk (if_pos (Int32.not_le.mp c1)).symm hk⟩
theorem c_changes {a : Nat} {x v : Int32} (hx : x = nI a) (ha : a < 3062) (hk : K (some (.int (I 79 a))) (sx_up I 79 (upd (I 79) a v)) (sx_run rw m ln)) : sx_C 117 (d + 1) [.ref 78, .int x, .int v] I (sx_run rw m ln) K := by
  refine sx_enter (by decide +kernel) (Nat.le_of_ble_eq_true rfl) (sx_go m117 40 rfl (fun VV CC hV hC => ?_))
  exact ⟨a, ⟨hx, ha⟩, a, ⟨hx, ha⟩, hk⟩
theorem c_textAt {t : Nat} {x : Int32} (hx : x = nI t) (hk : K (some (.int (nI (62 + 200 * t)))) I (sx_run rw m ln)) : sx_C 118 (d + 1) [.ref 78, .int x] I (sx_run rw m ln) K := by
  refine sx_enter (by decide +kernel) (Nat.le_of_ble_eq_true rfl) (sx_go m118 40 rfl (fun VV CC hV hC => ?_))
  subst hx
  exact sx_kk (by simp only [pk_mul, nI_add]) hk
theorem c_sets {k w : Nat} {x y v : Int32} (hx : x = nI k) (hy : y = nI w) (hkw : 12 + 5 * k + w < 3062) (hk : K none (sx_up I 79 (gs_set (I 79) k w v)) (sx_run rw m ln)) : sx_C 120 (d + 1) [.ref 78, .int x, .int y, .int v] I (sx_run rw m ln) K := by
  refine sx_enter (by decide +kernel) (Nat.le_of_ble_eq_true rfl) (sx_go m120 40 rfl (fun VV CC hV hC => ?_))
  subst hx; subst hy
  exact ⟨12 + 5 * k + w, ⟨by simp only [pk_mul, nI_add], hkw⟩, hk⟩
theorem c_isGuard8 {v : Int32} (hk : K (some (.int (gs_in v 0 (I 79 0 - nI 1)))) I (sx_run rw m ln)) : sx_C 121 (d + 2) [.ref 78, .int v] I (sx_run rw m ln) K := by
  refine sx_enter (by decide +kernel) (Nat.le_of_ble_eq_true rfl) (sx_go m121 40 rfl (fun VV CC hV hC => ?_))
  refine ⟨0, ⟨rfl, by omega⟩, hC _ _ _ _ _ (c_isIn rfl (by decide +kernel) rfl ⟨gs_in01 _ _ _, hk⟩)⟩
theorem c_isText {v : Int32} (hk : K (some (.int (gs_in v 0 (I 79 1 - nI 1)))) I (sx_run rw m ln)) : sx_C 122 (d + 2) [.ref 78, .int v] I (sx_run rw m ln) K := by
  refine sx_enter (by decide +kernel) (Nat.le_of_ble_eq_true rfl) (sx_go m122 40 rfl (fun VV CC hV hC => ?_))
  refine ⟨1, ⟨rfl, by omega⟩, hC _ _ _ _ _ (c_isIn rfl (by decide +kernel) rfl ⟨gs_in01 _ _ _, hk⟩)⟩
theorem c_drawn (hk : K (some (.int (gs_dv (gs_draw (I 79 11))))) (sx_up I 79 (upd (I 79) 11 (gs_draw (I 79 11)))) (sx_run rw m ln)) : sx_C 123 (d + 1) [.ref 78] I (sx_run rw m ln) K := by
  refine sx_enter (by decide +kernel) (Nat.le_of_ble_eq_true rfl) (sx_go m123 40 rfl (fun VV CC hV hC => ?_))
  refine ⟨11, ⟨rfl, by omega⟩, 11, ⟨rfl, by omega⟩, 11, ⟨rfl, by omega⟩, sx_kk ?_ hk⟩
  rw [sx_up_same]
  show gs_dv (upd (I 79) 11 (gs_draw (I 79 11)) 11) = _
  rw [pk_us]
theorem c_isOf {a b : Int32} {G : sx_G} (hk : K (some (.int (gs_isOf a b))) I G) : sx_C 124 (d + 1) [.int a, .int b] I G K := by
  refine sx_enter (by decide +kernel) (Nat.le_of_ble_eq_true rfl) (sx_go m124 60 rfl (fun VV CC hV hC => ?_))
  have yes : (a = b ∨ b = 0 ∨ (b = nI 1 ∧ a = nI 3) ∨ (b = nI 2 ∧ a = nI 4)) → (nI 1 = 0 ∨ nI 1 = 1) ∧ K (some (.int (nI 1))) I G := fun h => ⟨Or.inr rfl, sx_kk (if_pos h).symm hk⟩
  have no : ¬ (a = b ∨ b = 0 ∨ (b = nI 1 ∧ a = nI 3) ∨ (b = nI 2 ∧ a = nI 4)) → (nI 0 = 0 ∨ nI 0 = 1) ∧ K (some (.int (nI 0))) I G := fun h => ⟨Or.inl rfl, sx_kk (if_neg h).symm hk⟩
  refine ⟨fun c1 => yes (Or.inl c1), fun c1 => ⟨fun c2 => yes (Or.inr (Or.inl c2)), fun c2 => ⟨fun c3 => ?_, fun c3 => ⟨fun c4 => yes (Or.inr (Or.inr (Or.inl ⟨c3, c4⟩))), fun c4 => ?_⟩⟩⟩⟩
  · refine ⟨fun c5 => no ?_, fun c5 => ⟨fun c6 => no ?_, fun c6 => yes (Or.inr (Or.inr (Or.inr ⟨c5, c6⟩)))⟩⟩
    · rintro (h | h | h | h)
      · exact c1 h
      · exact c2 h
      · exact c3 h.1
      · exact c5 h.1
    · rintro (h | h | h | h)
      · exact c1 h
      · exact c2 h
      · exact c3 h.1
      · exact c6 h.2
  · refine ⟨fun c5 => no ?_, fun c5 => ⟨fun c6 => no ?_, fun c6 => yes (Or.inr (Or.inr (Or.inr ⟨c5, c6⟩)))⟩⟩
    · rintro (h | h | h | h)
      · exact c1 h
      · exact c2 h
      · exact c4 h.2
      · exact c5 h.1
    · rintro (h | h | h | h)
      · exact c1 h
      · exact c2 h
      · exact c4 h.2
      · exact c6 h.2
theorem c_isPost8 {v : Int32} {G : sx_G} (hk : K (some (.int (gs_in v 0 (nI 19)))) I G) : sx_C 125 (d + 2) [.int v] I G K := by
  refine sx_enter (by decide +kernel) (Nat.le_of_ble_eq_true rfl) (sx_go m125 40 rfl (fun VV CC hV hC => ?_))
  exact hC _ _ _ _ _ (c_isIn rfl (by decide +kernel) (by decide +kernel) ⟨gs_in01 _ _ _, hk⟩)
theorem v_whose {n : Nat} {p : Int32} (hn : I 79 0 = nI n) (hn10 : n ≤ 10) (hk : K (some (.int (gs_whoV (I 79) n p))) I (sx_run rw m ln)) : ∀ (r k : Nat), k + r = n → (∀ i, i < k → ¬ I 79 (12 + 5 * i + 1) = p) → sx_V 126 (d + 2) 0 0 K 2 [(0, .ref 78), (1, .int p), (2, .int (nI k))] [] I (sx_run rw m ln) := by
  have fin : ∀ k, k ≤ n → (∀ i, i < k → ¬ I 79 (12 + 5 * i + 1) = p) → (k = n ∨ (k < n ∧ I 79 (12 + 5 * k + 1) = p)) → (nI n ≤ nI k → K (some (.int (-1))) I (sx_run rw m ln)) ∧ (¬ nI n ≤ nI k → K (some (.int (nI k))) I (sx_run rw m ln)) := by
    intro k hkn hbef hor
    rcases hor with rfl | ⟨hlt, hp⟩
    · have e : gs_who (I 79) k p = k := gs_fst_none _ _ (fun i hi => decide_eq_false (hbef i hi))
      refine ⟨fun _ => sx_kk ?_ hk, fun c => absurd (nI_le (Nat.le_refl k) (by omega)) c⟩
      unfold gs_whoV
      rw [e, if_neg (Nat.lt_irrefl k)]
    · have e : gs_who (I 79) n p = k := gs_fst_at _ _ _ hlt (fun i hi => decide_eq_false (hbef i hi)) (decide_eq_true hp)
      refine ⟨fun c => absurd c (nI_ge hlt (by omega)), fun _ => sx_kk ?_ hk⟩
      unfold gs_whoV
      rw [e, if_pos hlt]
  intro r
  induction r with
  | zero =>
    intro k hkn hbef
    refine sx_go m126 60 rfl (fun VV CC hV hC => ?_)
    refine ⟨0, ⟨rfl, by omega⟩, fun c1 => ⟨0, ⟨rfl, by omega⟩, ?_⟩, fun c1 => ?_⟩
    · rw [hn]; exact fin k (by omega) hbef (Or.inl (by omega))
    · exfalso; rw [hn] at c1; exact c1 (nI_le (by omega) (by omega))
  | succ r ih =>
    intro k hkn hbef
    refine sx_go m126 60 rfl (fun VV CC hV hC => ?_)
    refine ⟨0, ⟨rfl, by omega⟩, fun c1 => ?_, fun c1 => hC _ _ _ _ _ (c_of rfl rfl (by omega) ⟨fun c2 => ⟨0, ⟨rfl, by omega⟩, ?_⟩, fun c2 => hV _ _ _ _ _ _ _ ?_⟩)⟩
    · exfalso; rw [hn] at c1; exact nI_ge (show k < n by omega) (by omega) c1
    · rw [hn]; exact fin k (by omega) hbef (Or.inr ⟨by omega, c2⟩)
    · have := ih (k + 1) (by omega) (fun i hi => by
        rcases Nat.lt_or_ge i k with q | q
        · exact hbef i q
        · have : i = k := by omega
          subst this; exact c2)
      rw [nI_succ] at this
      exact this
theorem c_whose {n : Nat} {p : Int32} (hn : I 79 0 = nI n) (hn10 : n ≤ 10) (hk : K (some (.int (gs_whoV (I 79) n p))) I (sx_run rw m ln)) : sx_C 126 (d + 2) [.ref 78, .int p] I (sx_run rw m ln) K := by
  refine sx_enter (by decide +kernel) (Nat.le_of_ble_eq_true rfl) (sx_go m126 60 rfl (fun VV CC hV hC => ?_))
  exact hV _ _ _ _ _ _ _ (v_whose hn hn10 hk n 0 (by omega) (fun i hi => absurd hi (Nat.not_lt_zero i)))
theorem c_comes {n : Nat} {a b c : Int32} (hn : I 79 0 = nI n) (hn10 : n < 10) (hk : K none (sx_up I 79 (gs_comes (I 79) n a b c)) (sx_run rw m ln)) : sx_C 127 (d + 2) [.ref 78, .int a, .int b, .int c] I (sx_run rw m ln) K := by
  refine sx_enter (by decide +kernel) (Nat.le_of_ble_eq_true rfl) (sx_go m127 100 rfl (fun VV CC hV hC => ?_))
  refine ⟨0, ⟨rfl, by omega⟩, 0, ⟨rfl, by omega⟩, 0, ⟨rfl, by omega⟩, ?_⟩
  refine hC _ _ _ _ _ (c_sets hn rfl (by omega) ?_)
  refine hC _ _ _ _ _ (c_sets hn rfl (by omega) ?_)
  refine hC _ _ _ _ _ (c_sets hn rfl (by omega) ?_)
  refine hC _ _ _ _ _ (c_sets hn rfl (by omega) ?_)
  refine hC _ _ _ _ _ (c_sets hn rfl (by omega) ?_)
  simp only [sx_up_same, sx_upup]
  have e : gs_comes (I 79) n a b c = gs_set (gs_set (gs_set (gs_set (gs_set (upd (I 79) 0 (I 79 0 + nI 1)) n 0 a) n 1 b) n 2 c) n 3 (nI 0)) n 4 (nI 1) := by
    rw [hn, nI_add]; rfl
  rw [e] at hk
  exact hk
end
