/-! ===== the reference: guards and rules, one call each ===== -/
def gs_fee (s : Nat → Int32) : Int32 := if gs_counts s (nI 1) (s 1).toNatClampNeg < 0 then s 8 else gs_work (upd (upd (fun _ => 0) 104 (s 8)) 108 (s 9)) s (gs_counts s (nI 1) (s 1).toNatClampNeg).toNatClampNeg
def gs_fineG (s : Nat → Int32) (g : Nat) : Int32 := if gs_counts s (nI 2) (s 1).toNatClampNeg < 0 then s (12 + 5 * g + 3) else gs_work (upd (upd (fun _ => 0) 119 (s (12 + 5 * g + 2))) 100 (s (12 + 5 * g + 3))) s (gs_counts s (nI 2) (s 1).toNatClampNeg).toNatClampNeg
def gs_fine (s : Nat → Int32) (g : Int32) : Int32 := if gs_in g 0 (s 0 - nI 1) = 0 then -1000000001 else gs_fineG s g.toNatClampNeg
def gs_guardC (s : Nat → Int32) (a b c : Int32) : (Nat → Int32) × Int32 := if gs_in a 0 (nI 5) = 0 ∨ gs_in b 0 (nI 19) = 0 ∨ gs_in c 0 (nI 99) = 0 then (s, -1000000001) else if ¬ gs_whoV s (gs_N s) b < 0 then (s, -1000000002) else if s 0 = nI 10 then (s, -1000000003) else (gs_comes s (gs_N s) a b c, s 0)
def gs_as (s : Nat → Int32) (g k : Int32) : Int32 := if gs_in g 0 (s 0 - nI 1) = 0 ∨ gs_in k 0 (nI 5) = 0 then -1000000001 else if gs_isOf (s (12 + 5 * g.toNatClampNeg + 0)) k = 0 then -1000000012 else s (12 + 5 * g.toNatClampNeg + 2)
def gs_turns (s : Nat → Int32) (g k : Int32) : (Nat → Int32) × Int32 := if gs_in g 0 (s 0 - nI 1) = 0 ∨ gs_in k 0 (nI 5) = 0 then (s, -1000000001) else (gs_set s g.toNatClampNeg 0 k, s (12 + 5 * g.toNatClampNeg + 0))
def gs_setC (s : Nat → Int32) (g w v : Int32) : (Nat → Int32) × Int32 := if gs_in g 0 (s 0 - nI 1) = 0 ∨ gs_in w (nI 2) (nI 4) = 0 ∨ gs_in v 0 (if w = nI 4 then nI 1 else nI 99) = 0 then (s, -1000000001) else (gs_set s g.toNatClampNeg w.toNatClampNeg v, s (12 + 5 * g.toNatClampNeg + w.toNatClampNeg))
def gs_moves (s : Nat → Int32) (g p : Int32) : (Nat → Int32) × Int32 := if gs_in g 0 (s 0 - nI 1) = 0 ∨ gs_in p 0 (nI 19) = 0 then (s, -1000000001) else if ¬ gs_whoV s (gs_N s) p < 0 then (s, -1000000002) else (gs_set s g.toNatClampNeg 1 p, s (12 + 5 * g.toNatClampNeg + 1))
def gs_at (s : Nat → Int32) (p : Int32) : Int32 := if gs_in p 0 (nI 19) = 0 then -1000000001 else gs_on (gs_whoV s (gs_N s) p)
def gs_rule (s : Nat → Int32) (w v : Int32) : (Nat → Int32) × Int32 := if gs_in w 0 (nI 3) = 0 ∨ gs_in v 0 (if w = 0 then nI 19 else if w = nI 1 then nI 100 else nI 999) = 0 then (s, -1000000001) else (upd s (3 + w.toNatClampNeg) v, s (3 + w.toNatClampNeg))
def gs_why (s : Nat → Int32) (k : Int32) : Int32 := if gs_in k 0 (nI 2) = 0 then -1000000001 else gs_on (gs_counts s k (s 1).toNatClampNeg)
section
variable {d m : Nat} {I : sx_I} {rw : Nat → Nat → Option Nat} {ln : Nat → Nat} {K : sx_K}
theorem sx_kp {K : sx_K} {G : sx_G} {I : sx_I} {r r' : (Nat → Int32) × Int32} (e : r = r') (h : K (some (.int r.2)) (sx_up I 79 r.1) G) : K (some (.int r'.2)) (sx_up I 79 r'.1) G := e ▸ h
theorem c_guard {n : Nat} {a b c : Int32} (hn : I 79 0 = nI n) (hn10 : n ≤ 10) (hk : K (some (.int (gs_guardC (I 79) a b c).2)) (sx_up I 79 (gs_guardC (I 79) a b c).1) (sx_run rw m ln)) : sx_C 128 (d + 3) [.ref 78, .int a, .int b, .int c] I (sx_run rw m ln) K := by
  refine sx_enter (by decide +kernel) (Nat.le_of_ble_eq_true rfl) (sx_go m128 60 rfl (fun VV CC hV hC => ?_))
  have bad : (gs_in a 0 (nI 5) = 0 ∨ gs_in b 0 (nI 19) = 0 ∨ gs_in c 0 (nI 99) = 0) → K (some (.int (-1000000001))) I (sx_run rw m ln) := by
    intro h
    have := sx_kp (show gs_guardC (I 79) a b c = _ from if_pos h) hk
    rw [sx_upself] at this
    exact this
  refine hC _ _ _ _ _ (c_isIn rfl (by decide +kernel) (by decide +kernel) ⟨fun (c1 : gs_in a 0 (nI 5) = 0) => bad (Or.inl c1), fun (c1 : ¬ gs_in a 0 (nI 5) = 0) => hC _ _ _ _ _ (c_isPost8 ⟨fun (c2 : gs_in b 0 (nI 19) = 0) => bad (Or.inr (Or.inl c2)), fun (c2 : ¬ gs_in b 0 (nI 19) = 0) => hC _ _ _ _ _ (c_isIn rfl (by decide +kernel) (by decide +kernel) ⟨fun (c3 : ¬ gs_in c 0 (nI 99) = 0) => ?_, fun (c3 : gs_in c 0 (nI 99) = 0) => bad (Or.inr (Or.inr c3))⟩)⟩)⟩)
  have e : gs_guardC (I 79) a b c = (if ¬ gs_whoV (I 79) n b < 0 then (I 79, -1000000002) else if I 79 0 = nI 10 then (I 79, -1000000003) else (gs_comes (I 79) n a b c, I 79 0)) := by
    unfold gs_guardC
    rw [if_neg (by rintro (h | h | h); exact c1 h; exact c2 h; exact c3 h), gs_N_eq hn hn10]
  have hk := sx_kp e hk
  refine hC _ _ _ _ _ (c_whose hn hn10 ⟨fun (c4 : gs_whoV (I 79) n b < 0) => ⟨0, ⟨rfl, by omega⟩, fun (c5 : ¬ I 79 0 = nI 10) => ?_, fun (c5 : I 79 0 = nI 10) => ?_⟩, fun (c4 : ¬ gs_whoV (I 79) n b < 0) => ?_⟩)
  · rw [if_neg (fun h => h c4), if_neg c5] at hk
    refine hC _ _ _ _ _ (c_comes hn ?_ ⟨0, ⟨rfl, by omega⟩, sx_kk ?_ hk⟩)
    · rcases Nat.lt_or_ge n 10 with q | q
      · exact q
      · exact absurd (by rw [hn, show n = 10 by omega]) c5
    · show sx_up I 79 (gs_comes (I 79) n a b c) 79 0 - nI 1 = I 79 0
      rw [sx_up_same, hn]
      show gs_comes (I 79) n a b c 0 - nI 1 = nI n
      unfold gs_comes gs_set
      rw [pk_un (by omega), pk_un (by omega), pk_un (by omega), pk_un (by omega), pk_un (by omega), pk_us, pk_sub (by omega)]
      rfl
  · rw [if_neg (fun h => h c4), if_pos c5, sx_upself] at hk
    exact hk
  · rw [if_pos c4, sx_upself] at hk
    exact hk
theorem c_as {n : Nat} {g k : Int32} (hn : I 79 0 = nI n) (hn10 : n ≤ 10) (hk : K (some (.int (gs_as (I 79) g k))) I (sx_run rw m ln)) : sx_C 136 (d + 3) [.ref 78, .int g, .int k] I (sx_run rw m ln) K := by
  refine sx_enter (by decide +kernel) (Nat.le_of_ble_eq_true rfl) (sx_go m136 60 rfl (fun VV CC hV hC => ?_))
  unfold gs_as at hk
  refine hC _ _ _ _ _ (c_isGuard8 ⟨fun (c1 : gs_in g 0 (I 79 0 - nI 1) = 0) => sx_kk (if_pos (Or.inl c1)).symm hk, fun (c1 : ¬ gs_in g 0 (I 79 0 - nI 1) = 0) => hC _ _ _ _ _ (c_isIn rfl (by decide +kernel) (by decide +kernel) ⟨fun (c2 : ¬ gs_in k 0 (nI 5) = 0) => ?_, fun (c2 : gs_in k 0 (nI 5) = 0) => sx_kk (if_pos (Or.inr c2)).symm hk⟩)⟩)
  rw [if_neg (fun h => h.elim c1 c2)] at hk
  obtain ⟨j, rfl, h3⟩ := gs_guard hn hn10 c1
  rw [nI_clamp (by omega)] at hk
  refine hC _ _ _ _ _ (c_of rfl rfl (by omega) (hC _ _ _ _ _ (c_isOf ⟨fun (c3 : _ = _) => sx_kk (if_pos c3).symm hk, fun (c3 : ¬ _ = _) => hC _ _ _ _ _ (c_of rfl rfl (by omega) (sx_kk (if_neg c3).symm hk))⟩)))
theorem c_turns {n : Nat} {g k : Int32} (hn : I 79 0 = nI n) (hn10 : n ≤ 10) (hk : K (some (.int (gs_turns (I 79) g k).2)) (sx_up I 79 (gs_turns (I 79) g k).1) (sx_run rw m ln)) : sx_C 137 (d + 3) [.ref 78, .int g, .int k] I (sx_run rw m ln) K := by
  refine sx_enter (by decide +kernel) (Nat.le_of_ble_eq_true rfl) (sx_go m137 60 rfl (fun VV CC hV hC => ?_))
  have bad : (gs_in g 0 (I 79 0 - nI 1) = 0 ∨ gs_in k 0 (nI 5) = 0) → K (some (.int (-1000000001))) I (sx_run rw m ln) := by
    intro h
    have := sx_kp (show gs_turns (I 79) g k = _ from if_pos h) hk
    rw [sx_upself] at this
    exact this
  refine hC _ _ _ _ _ (c_isGuard8 ⟨fun (c1 : gs_in g 0 (I 79 0 - nI 1) = 0) => bad (Or.inl c1), fun (c1 : ¬ gs_in g 0 (I 79 0 - nI 1) = 0) => hC _ _ _ _ _ (c_isIn rfl (by decide +kernel) (by decide +kernel) ⟨fun (c2 : gs_in k 0 (nI 5) = 0) => bad (Or.inr c2), fun (c2 : ¬ gs_in k 0 (nI 5) = 0) => ?_⟩)⟩)
  have hk := sx_kp (show gs_turns (I 79) g k = _ from if_neg (fun h => h.elim c1 c2)) hk
  obtain ⟨j, rfl, h3⟩ := gs_guard hn hn10 c1
  rw [nI_clamp (by omega)] at hk
  exact hC _ _ _ _ _ (c_changes (a := 12 + 5 * j + 0) (by simp only [pk_mul, nI_add]; rfl) (by omega) hk)
theorem c_setC {n : Nat} {g w v : Int32} (hn : I 79 0 = nI n) (hn10 : n ≤ 10) (hk : K (some (.int (gs_setC (I 79) g w v).2)) (sx_up I 79 (gs_setC (I 79) g w v).1) (sx_run rw m ln)) : sx_C 138 (d + 3) [.ref 78, .int g, .int w, .int v] I (sx_run rw m ln) K := by
  refine sx_enter (by decide +kernel) (Nat.le_of_ble_eq_true rfl) (sx_go m138 60 rfl (fun VV CC hV hC => ?_))
  have bad : (gs_in g 0 (I 79 0 - nI 1) = 0 ∨ gs_in w (nI 2) (nI 4) = 0 ∨ gs_in v 0 (if w = nI 4 then nI 1 else nI 99) = 0) → K (some (.int (-1000000001))) I (sx_run rw m ln) := by
    intro h
    have := sx_kp (show gs_setC (I 79) g w v = _ from if_pos h) hk
    rw [sx_upself] at this
    exact this
  refine hC _ _ _ _ _ (c_isGuard8 ⟨fun (c1 : gs_in g 0 (I 79 0 - nI 1) = 0) => bad (Or.inl c1), fun (c1 : ¬ gs_in g 0 (I 79 0 - nI 1) = 0) => hC _ _ _ _ _ (c_isIn rfl (by decide +kernel) (by decide +kernel) ⟨fun (c2 : gs_in w (nI 2) (nI 4) = 0) => bad (Or.inr (Or.inl c2)), fun (c2 : ¬ gs_in w (nI 2) (nI 4) = 0) => ?_⟩)⟩)
  have good : ¬ gs_in v 0 (if w = nI 4 then nI 1 else nI 99) = 0 → ∀ K' : sx_K, (∀ u I2, K (some (.int u)) I2 (sx_run rw m ln) → K' (some (.int u)) I2 (sx_run rw m ln)) → sx_C 117 (d + 2) [.ref 78, .int (nI 12 + nI 5 * g + w), .int v] I (sx_run rw m ln) K' := by
    intro c3 K' hK
    have hk := sx_kp (show gs_setC (I 79) g w v = _ from if_neg (by rintro (h | h | h); exact c1 h; exact c2 h; exact c3 h)) hk
    obtain ⟨j, rfl, h3⟩ := gs_guard hn hn10 c1
    obtain ⟨i, rfl, h4, h5⟩ := gs_in_nat (by decide) c2 (by decide)
    rw [nI_clamp (by omega), nI_clamp (by omega)] at hk
    exact c_changes (a := 12 + 5 * j + i) (by simp only [pk_mul, nI_add]) (by omega) (hK _ _ hk)
  refine ⟨fun (c3 : ¬ w = nI 4) => hC _ _ _ _ _ (c_isIn rfl (by decide +kernel) (b := nI 99) (by decide +kernel) ⟨fun (c4 : ¬ gs_in v 0 (nI 99) = 0) => hC _ _ _ _ _ (good (by rw [if_neg c3]; exact c4) _ (fun _ _ h => h)), fun (c4 : gs_in v 0 (nI 99) = 0) => bad (Or.inr (Or.inr (by rw [if_neg c3]; exact c4)))⟩), fun (c3 : w = nI 4) => hC _ _ _ _ _ (c_isIn rfl (by decide +kernel) (b := nI 1) (by decide +kernel) ⟨fun (c4 : ¬ gs_in v 0 (nI 1) = 0) => hC _ _ _ _ _ (good (by rw [if_pos c3]; exact c4) _ (fun _ _ h => h)), fun (c4 : gs_in v 0 (nI 1) = 0) => bad (Or.inr (Or.inr (by rw [if_pos c3]; exact c4)))⟩)⟩
theorem c_moves {n : Nat} {g p : Int32} (hn : I 79 0 = nI n) (hn10 : n ≤ 10) (hk : K (some (.int (gs_moves (I 79) g p).2)) (sx_up I 79 (gs_moves (I 79) g p).1) (sx_run rw m ln)) : sx_C 139 (d + 3) [.ref 78, .int g, .int p] I (sx_run rw m ln) K := by
  refine sx_enter (by decide +kernel) (Nat.le_of_ble_eq_true rfl) (sx_go m139 60 rfl (fun VV CC hV hC => ?_))
  have bad : (gs_in g 0 (I 79 0 - nI 1) = 0 ∨ gs_in p 0 (nI 19) = 0) → K (some (.int (-1000000001))) I (sx_run rw m ln) := by
    intro h
    have := sx_kp (show gs_moves (I 79) g p = _ from if_pos h) hk
    rw [sx_upself] at this
    exact this
  refine hC _ _ _ _ _ (c_isGuard8 ⟨fun (c1 : gs_in g 0 (I 79 0 - nI 1) = 0) => bad (Or.inl c1), fun (c1 : ¬ gs_in g 0 (I 79 0 - nI 1) = 0) => hC _ _ _ _ _ (c_isPost8 ⟨fun (c2 : ¬ gs_in p 0 (nI 19) = 0) => ?_, fun (c2 : gs_in p 0 (nI 19) = 0) => bad (Or.inr c2)⟩)⟩)
  have hk := sx_kp (show gs_moves (I 79) g p = _ from if_neg (fun h => h.elim c1 c2)) hk
  rw [gs_N_eq hn hn10] at hk
  refine hC _ _ _ _ _ (c_whose hn hn10 ⟨fun (c4 : 0 ≤ gs_whoV (I 79) n p) => ?_, fun (c4 : ¬ 0 ≤ gs_whoV (I 79) n p) => ?_⟩)
  · rw [if_pos (Int32.not_lt.mpr c4), sx_upself] at hk
    exact hk
  · rw [if_neg (fun h => h (Int32.not_le.mp c4))] at hk
    obtain ⟨j, rfl, h3⟩ := gs_guard hn hn10 c1
    rw [nI_clamp (by omega)] at hk
    exact hC _ _ _ _ _ (c_changes (a := 12 + 5 * j + 1) (by simp only [pk_mul, nI_add]) (by omega) hk)
theorem c_at {n : Nat} {p : Int32} (hn : I 79 0 = nI n) (hn10 : n ≤ 10) (hk : K (some (.int (gs_at (I 79) p))) I (sx_run rw m ln)) : sx_C 140 (d + 3) [.ref 78, .int p] I (sx_run rw m ln) K := by
  refine sx_enter (by decide +kernel) (Nat.le_of_ble_eq_true rfl) (sx_go m140 60 rfl (fun VV CC hV hC => ?_))
  unfold gs_at at hk
  rw [gs_N_eq hn hn10] at hk
  exact hC _ _ _ _ _ (c_isPost8 ⟨fun (c1 : gs_in p 0 (nI 19) = 0) => sx_kk (if_pos c1).symm hk, fun (c1 : ¬ gs_in p 0 (nI 19) = 0) => hC _ _ _ _ _ (c_whose hn hn10 (hC _ _ _ _ _ (c_orNone (sx_kk (if_neg c1).symm hk))))⟩)
theorem c_seed {v : Int32} (hk : K (some (.int (I 79 11))) (sx_up I 79 (upd (I 79) 11 v)) (sx_run rw m ln)) : sx_C 143 (d + 2) [.ref 78, .int v] I (sx_run rw m ln) K := by
  refine sx_enter (by decide +kernel) (Nat.le_of_ble_eq_true rfl) (sx_go m143 60 rfl (fun VV CC hV hC => ?_))
  exact hC _ _ _ _ _ (c_changes rfl (by omega) hk)
theorem c_rule {w v : Int32} (hk : K (some (.int (gs_rule (I 79) w v).2)) (sx_up I 79 (gs_rule (I 79) w v).1) (sx_run rw m ln)) : sx_C 141 (d + 3) [.ref 78, .int w, .int v] I (sx_run rw m ln) K := by
  refine sx_enter (by decide +kernel) (Nat.le_of_ble_eq_true rfl) (sx_go m141 60 rfl (fun VV CC hV hC => ?_))
  have bad : (gs_in w 0 (nI 3) = 0 ∨ gs_in v 0 (if w = 0 then nI 19 else if w = nI 1 then nI 100 else nI 999) = 0) → K (some (.int (-1000000001))) I (sx_run rw m ln) := by
    intro h
    have := sx_kp (show gs_rule (I 79) w v = _ from if_pos h) hk
    rw [sx_upself] at this
    exact this
  refine hC _ _ _ _ _ (c_isIn rfl (by decide +kernel) (by decide +kernel) ⟨fun (c1 : gs_in w 0 (nI 3) = 0) => bad (Or.inl c1), fun (c1 : ¬ gs_in w 0 (nI 3) = 0) => ?_⟩)
  have good : ¬ gs_in v 0 (if w = 0 then nI 19 else if w = nI 1 then nI 100 else nI 999) = 0 → ∀ K' : sx_K, (∀ u I2, K (some (.int u)) I2 (sx_run rw m ln) → K' (some (.int u)) I2 (sx_run rw m ln)) → sx_C 117 (d + 2) [.ref 78, .int (nI 3 + w), .int v] I (sx_run rw m ln) K' := by
    intro c3 K' hK
    have hk := sx_kp (show gs_rule (I 79) w v = _ from if_neg (fun h => h.elim c1 c3)) hk
    obtain ⟨i, rfl, h4, h5⟩ := gs_in_nat (a := 0) (by decide) c1 (by decide)
    rw [nI_clamp (by omega)] at hk
    exact c_changes (a := 3 + i) (by simp only [nI_add]) (by omega) (hK _ _ hk)
  refine ⟨fun (c3 : ¬ w = 0) => ⟨fun (c5 : ¬ w = nI 1) => hC _ _ _ _ _ (c_isIn rfl (by decide +kernel) (b := nI 999) (by decide +kernel) ⟨fun (c4 : ¬ gs_in v 0 (nI 999) = 0) => hC _ _ _ _ _ (good (by rw [if_neg c3, if_neg c5]; exact c4) _ (fun _ _ h => h)), fun (c4 : gs_in v 0 (nI 999) = 0) => bad (Or.inr (by rw [if_neg c3, if_neg c5]; exact c4))⟩), fun (c5 : w = nI 1) => hC _ _ _ _ _ (c_isIn rfl (by decide +kernel) (b := nI 100) (by decide +kernel) ⟨fun (c4 : ¬ gs_in v 0 (nI 100) = 0) => hC _ _ _ _ _ (good (by rw [if_neg c3, if_pos c5]; exact c4) _ (fun _ _ h => h)), fun (c4 : gs_in v 0 (nI 100) = 0) => bad (Or.inr (by rw [if_neg c3, if_pos c5]; exact c4))⟩)⟩, fun (c3 : w = 0) => hC _ _ _ _ _ (c_isIn rfl (by decide +kernel) (b := nI 19) (by decide +kernel) ⟨fun (c4 : ¬ gs_in v 0 (nI 19) = 0) => hC _ _ _ _ _ (good (by rw [if_pos c3]; exact c4) _ (fun _ _ h => h)), fun (c4 : gs_in v 0 (nI 19) = 0) => bad (Or.inr (by rw [if_pos c3]; exact c4))⟩)⟩
theorem c_why {T : Nat} {k : Int32} (hT : I 79 1 = nI T) (hT14 : T ≤ 14) (hk : K (some (.int (gs_why (I 79) k))) I (sx_run rw m ln)) : sx_C 190 (d + 3) [.ref 78, .int k] I (sx_run rw m ln) K := by
  refine sx_enter (by decide +kernel) (Nat.le_of_ble_eq_true rfl) (sx_go m190 60 rfl (fun VV CC hV hC => ?_))
  unfold gs_why at hk
  rw [hT, nI_clamp (by omega)] at hk
  exact hC _ _ _ _ _ (c_isIn rfl (by decide +kernel) (by decide +kernel) ⟨fun (c1 : gs_in k 0 (nI 2) = 0) => sx_kk (if_pos c1).symm hk, fun (c1 : ¬ gs_in k 0 (nI 2) = 0) => hC _ _ _ _ _ (c_counts hT hT14 (hC _ _ _ _ _ (c_orNone (sx_kk (if_neg c1).symm hk))))⟩)
end
