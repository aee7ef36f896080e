/-! ===== the reference: marks; wear poured ===== -/
theorem sx_kq {a : Nat} {K : sx_K} {G : sx_G} {I : sx_I} {r r' : (Nat → Int32) × Int32} (e : r = r') (h : K (some (.int r.2)) (sx_up I a r.1) G) : K (some (.int r'.2)) (sx_up I a r'.1) G := e ▸ h
theorem gs_place {p x : Int32} {c : Nat} (hx : x = nI c) (hc : c < 2 ^ 31) (h : ¬ gs_in p 0 (x - nI 1) = 0) : ∃ i, p = nI i ∧ i < c := by
  subst hx
  have h1 := gs_in_iff.mp h
  rcases Nat.eq_zero_or_pos c with rfl | hp
  · exfalso
    have := Int32.le_trans h1.1 h1.2
    exact absurd this (by decide +kernel)
  · rw [pk_sub (by omega)] at h
    obtain ⟨i, h2, _, h3⟩ := gs_in_nat (a := 0) (by omega) h (by decide)
    exact ⟨i, h2, by omega⟩
def gs_mkV (S v : Int32) : Int32 := if S = 0 then (v <<< (nI 16 &&& 31)) >>> (nI 16 &&& 31) else v
def gs_mark (S Z R : Nat → Int32) (a p v : Int32) : (Nat → Int32) × Int32 :=
  if gs_in a 0 (nI 3) = 0 then (R, -1000000001) else if S a.toNatClampNeg < 0 then (R, -1000000011) else if gs_in p 0 (Z a.toNatClampNeg - nI 1) = 0 then (R, -1000000013)
  else if S a.toNatClampNeg = 0 ∧ v = -1000000005 then (R, -1000000012) else if S a.toNatClampNeg = nI 1 ∧ ¬ v = -1000000005 ∧ gs_in v (-99999) (nI 99999) = 0 then (R, -1000000001)
  else (upd R (24 * a.toNatClampNeg + p.toNatClampNeg) (gs_mkV (S a.toNatClampNeg) v), nI 1)
def gs_pourV (s R : Nat → Int32) (j k : Nat) : Int32 := if R (24 * j + k) = -1000000005 then s (12 + 5 * k + 2) else gs_wi (R (24 * j + k)) (nI 99)
def gs_pour1 (R : Nat → Int32) (j k : Nat) (s : Nat → Int32) : Nat → Int32 := gs_set s k 2 (gs_pourV s R j k)
def gs_pourC (R : Nat → Int32) (j : Nat) (s : Nat → Int32) : Nat → Int32
  | 0 => nI 0
  | k + 1 => gs_pourC R j s k + (if gs_pourV (gs_it (gs_pour1 R j) k s) R j k = gs_it (gs_pour1 R j) k s (12 + 5 * k + 2) then nI 0 else nI 1)
def gs_pour (s S Z R : Nat → Int32) (a : Int32) : (Nat → Int32) × Int32 :=
  if gs_in a 0 (nI 3) = 0 then (s, -1000000001) else if S a.toNatClampNeg < 0 then (s, -1000000011)
  else (gs_it (gs_pour1 R a.toNatClampNeg) (min (Z a.toNatClampNeg).toNatClampNeg (gs_N s)) s, gs_pourC R a.toNatClampNeg s (min (Z a.toNatClampNeg).toNatClampNeg (gs_N s)))
section
variable {d m : Nat} {I : sx_I} {rw : Nat → Nat → Option Nat} {ln : Nat → Nat} {K : sx_K}
theorem v_mark96 {a p : Nat} {v : Int32} (ha : a < 4) (hp : p < 24) (hk : K (some (.int (nI 1))) (sx_up I 84 (upd (I 84) (24 * a + p) (gs_mkV (I 82 a) v))) (sx_run rw m ln)) :
    sx_V 195 (d + 1) 0 0 K 96 [(0, .ref 78), (1, .int (nI a)), (2, .int (nI p)), (3, .int v)] [] I (sx_run rw m ln) := by
  unfold gs_mkV at hk
  refine sx_go m195 60 rfl (fun VV CC hV hC => ?_)
  refine ⟨a, ⟨rfl, by omega⟩, fun (c : ¬ I 82 a = 0) => ⟨24 * a + p, ⟨by simp only [pk_mul, nI_add], by omega⟩, ?_⟩, fun (c : I 82 a = 0) => ⟨24 * a + p, ⟨by simp only [pk_mul, nI_add], by omega⟩, ?_⟩⟩
  · rw [if_neg c] at hk; exact hk
  · rw [if_pos c] at hk; exact hk
theorem v_mark63 {a p : Nat} {v : Int32} (ha : a < 4) (hp : p < 24) (hk : K (some (.int (if I 82 a = nI 1 ∧ ¬ v = -1000000005 ∧ gs_in v (-99999) (nI 99999) = 0 then -1000000001 else nI 1))) (if I 82 a = nI 1 ∧ ¬ v = -1000000005 ∧ gs_in v (-99999) (nI 99999) = 0 then I else sx_up I 84 (upd (I 84) (24 * a + p) (gs_mkV (I 82 a) v))) (sx_run rw m ln)) :
    sx_V 195 (d + 2) 0 0 K 63 [(0, .ref 78), (1, .int (nI a)), (2, .int (nI p)), (3, .int v)] [] I (sx_run rw m ln) := by
  have ok : ¬ (I 82 a = nI 1 ∧ ¬ v = -1000000005 ∧ gs_in v (-99999) (nI 99999) = 0) → sx_V 195 (d + 2) 0 0 K 96 [(0, .ref 78), (1, .int (nI a)), (2, .int (nI p)), (3, .int v)] [] I (sx_run rw m ln) := by
    intro h
    rw [if_neg h, if_neg h] at hk
    exact v_mark96 (d := d + 1) ha hp hk
  refine sx_go m195 60 rfl (fun VV CC hV hC => ?_)
  refine ⟨a, ⟨rfl, by omega⟩, fun (c1 : ¬ I 82 a = nI 1) => hV _ _ _ _ _ _ _ (ok (fun h => c1 h.1)), fun (c1 : I 82 a = nI 1) => ⟨fun (c2 : v = -1000000005) => hV _ _ _ _ _ _ _ (ok (fun h => h.2.1 c2)), fun (c2 : ¬ v = -1000000005) => hC _ _ _ _ _ (c_isIn rfl (a := -99999) (by decide +kernel) (by decide +kernel) ⟨fun (c3 : ¬ gs_in v (-99999) (nI 99999) = 0) => hV _ _ _ _ _ _ _ (ok (fun h => c3 h.2.2)), fun (c3 : gs_in v (-99999) (nI 99999) = 0) => ?_⟩)⟩⟩
  rw [if_pos ⟨c1, c2, c3⟩, if_pos ⟨c1, c2, c3⟩] at hk
  exact hk
theorem c_mark {a p v : Int32} (hZ : ∀ j, j < 4 → ∃ c, I 83 j = nI c ∧ c ≤ 24) (hk : K (some (.int (gs_mark (I 82) (I 83) (I 84) a p v).2)) (sx_up I 84 (gs_mark (I 82) (I 83) (I 84) a p v).1) (sx_run rw m ln)) : sx_C 195 (d + 3) [.ref 78, .int a, .int p, .int v] I (sx_run rw m ln) K := by
  refine sx_enter (by decide +kernel) (Nat.le_of_ble_eq_true rfl) (sx_go m195 60 rfl (fun VV CC hV hC => ?_))
  generalize e : gs_mark (I 82) (I 83) (I 84) a p v = g at hk
  unfold gs_mark at e
  have bad : ∀ x, (I 84, x) = g → K (some (.int x)) I (sx_run rw m ln) := by
    intro x h
    have := sx_kq h.symm hk
    rw [sx_upself] at this
    exact this
  refine hC _ _ _ _ _ (c_isSheet ⟨fun (c1 : ¬ gs_in a 0 (nI 3) = 0) => ?_, fun (c1 : gs_in a 0 (nI 3) = 0) => bad _ (by rw [if_pos c1] at e; exact e)⟩)
  obtain ⟨j, rfl, _, h3⟩ := gs_in_nat (a := 0) (by decide) c1 (by decide)
  obtain ⟨z, hz, hz24⟩ := hZ j (by omega)
  have ej : (nI j).toNatClampNeg = j := nI_clamp (by omega)
  refine ⟨j, ⟨rfl, by omega⟩, fun (c2 : 0 ≤ I 82 j) => ⟨j, ⟨rfl, by omega⟩, hC _ _ _ _ _ (c_isIn rfl (by decide +kernel) rfl ⟨fun (c3 : ¬ gs_in p 0 (I 83 j - nI 1) = 0) => ?_, fun (c3 : gs_in p 0 (I 83 j - nI 1) = 0) => bad _ ?_⟩)⟩, fun (c2 : ¬ 0 ≤ I 82 j) => bad _ ?_⟩
  · obtain ⟨i, rfl, h5⟩ := gs_place hz (by omega) c3
    have ei : (nI i).toNatClampNeg = i := nI_clamp (by omega)
    have hk63 : ¬ (I 82 j = 0 ∧ v = -1000000005) → sx_V 195 (d + 3) 0 0 K 63 [(0, .ref 78), (1, .int (nI j)), (2, .int (nI i)), (3, .int v)] [] I (sx_run rw m ln) := by
      intro h
      refine v_mark63 (d := d + 1) (by omega) (by omega) ?_
      rw [if_neg c1, ej, if_neg (Int32.not_lt.mpr c2), if_neg c3, if_neg h, ei] at e
      by_cases q : I 82 j = nI 1 ∧ ¬ v = -1000000005 ∧ gs_in v (-99999) (nI 99999) = 0
      · rw [if_pos q] at e
        rw [if_pos q, if_pos q]
        exact bad _ e
      · rw [if_neg q] at e
        rw [if_neg q, if_neg q]
        exact sx_kq e.symm hk
    refine ⟨j, ⟨rfl, by omega⟩, fun (c4 : ¬ I 82 j = 0) => hV _ _ _ _ _ _ _ (hk63 (fun h => c4 h.1)), fun (c4 : I 82 j = 0) => ⟨fun (c5 : ¬ v = -1000000005) => hV _ _ _ _ _ _ _ (hk63 (fun h => c5 h.2)), fun (c5 : v = -1000000005) => bad _ ?_⟩⟩
    rw [if_neg c1, ej, if_neg (Int32.not_lt.mpr c2), if_neg c3, if_pos ⟨c4, c5⟩] at e
    exact e
  · rw [if_neg c1, ej, if_neg (Int32.not_lt.mpr c2), if_pos c3] at e
    exact e
  · rw [if_neg c1, ej, if_pos (Int32.not_le.mp c2)] at e
    exact e
theorem v_pour92 {j k : Nat} {c v : Int32} (hk10 : k < 10) (h : sx_V 196 (d + 2) 0 0 K 27 [(0, .ref 78), (1, .int (nI j)), (2, .int (c + (if v = I 79 (12 + 5 * k + 2) then nI 0 else nI 1))), (3, .int (nI (k + 1)))] [] (sx_up I 79 (gs_set (I 79) k 2 v)) (sx_run rw m ln)) :
    sx_V 196 (d + 2) 0 0 K 92 [(0, .ref 78), (1, .int (nI j)), (2, .int c), (3, .int (nI k)), (5, .int v)] [] I (sx_run rw m ln) := by
  rw [nI_succ k] at h
  refine sx_go m196 60 rfl (fun VV CC hV hC => ?_)
  refine hC _ _ _ _ _ (c_changes (a := 12 + 5 * k + 2) (by simp only [pk_mul, nI_add]) (by omega) ⟨fun (c1 : ¬ v = I 79 (12 + 5 * k + 2)) => hV _ _ _ _ _ _ _ ?_, fun (c1 : v = I 79 (12 + 5 * k + 2)) => hV _ _ _ _ _ _ _ ?_⟩)
  · rw [if_neg c1] at h; exact h
  · rw [if_pos c1] at h; exact h
theorem v_pour {n j z : Nat} (hn : I 79 0 = nI n) (hn10 : n ≤ 10) (hj : j < 4) (hz : I 83 j = nI z) (hz24 : z ≤ 24) (hk : K (some (.int (gs_pourC (I 84) j (I 79) (min z n)))) (sx_up I 79 (gs_it (gs_pour1 (I 84) j) (min z n) (I 79))) (sx_run rw m ln)) :
    ∀ (r k : Nat) (I' : sx_I), k + r = min z n → I' = sx_up I 79 (gs_it (gs_pour1 (I 84) j) k (I 79)) → sx_V 196 (d + 2) 0 0 K 27 [(0, .ref 78), (1, .int (nI j)), (2, .int (gs_pourC (I 84) j (I 79) k)), (3, .int (nI k))] [] I' (sx_run rw m ln) := by
  have hlo : ∀ k, k ≤ 10 → gs_lo (I 79) (gs_it (gs_pour1 (I 84) j) k (I 79)) := fun k hk => gs_lo.it _ k (fun k' s hk' => gs_lo.set s k' 2 _ (by omega) (by omega))
  refine sx_for (min z n) (fun I' h => ?_) (fun k I' hk2 h ih => ?_)
  · have e0 : I' 79 0 = nI n := by rw [h, sx_up_same, (hlo _ (by omega)).1, hn]
    have ez : I' 83 j = nI z := by rw [h, sx_up_ne (by decide), hz]
    rw [← h] at hk
    refine sx_go m196 60 rfl (fun VV CC hV hC => ?_)
    refine ⟨j, ⟨rfl, by omega⟩, fun _ => hk, fun (c1 : ¬ I' 83 j ≤ nI (min z n)) => ⟨0, ⟨rfl, by omega⟩, fun _ => hk, fun (c2 : ¬ I' 79 0 ≤ nI (min z n)) => ?_⟩⟩
    exfalso
    rw [ez, nI_leI (by omega) (by omega)] at c1
    rw [e0, nI_leI (by omega) (by omega)] at c2
    omega
  · have e79 : I' 79 = gs_it (gs_pour1 (I 84) j) k (I 79) := by rw [h, sx_up_same]
    have e84 : I' 84 = I 84 := by rw [h, sx_up_ne (by decide)]
    have e0 : I' 79 0 = nI n := by rw [e79, (hlo _ (by omega)).1, hn]
    have ez : I' 83 j = nI z := by rw [h, sx_up_ne (by decide), hz]
    have nxt : ∀ v, v = gs_pourV (I' 79) (I' 84) j k → sx_V 196 (d + 2) 0 0 K 92 [(0, .ref 78), (1, .int (nI j)), (2, .int (gs_pourC (I 84) j (I 79) k)), (3, .int (nI k)), (5, .int v)] [] I' (sx_run rw m ln) := by
      intro v hv
      refine v_pour92 (by omega) ?_
      have := ih (sx_up I' 79 (gs_set (I' 79) k 2 v)) (by rw [hv, e84, e79, h, sx_upup]; rfl)
      rw [hv, e84, e79]
      rw [hv, e84, e79] at this
      exact this
    refine sx_go m196 60 rfl (fun VV CC hV hC => ?_)
    refine ⟨j, ⟨rfl, by omega⟩, fun (c1 : I' 83 j ≤ nI k) => ?_, fun (c1 : ¬ I' 83 j ≤ nI k) => ⟨0, ⟨rfl, by omega⟩, fun (c2 : I' 79 0 ≤ nI k) => ?_, fun (c2 : ¬ I' 79 0 ≤ nI k) => ⟨24 * j + k, ⟨by simp only [pk_mul, nI_add], by omega⟩, fun (c3 : ¬ I' 84 (24 * j + k) = -1000000005) => hC _ _ _ _ _ (c_within (hV _ _ _ _ _ _ _ (nxt _ (if_neg c3).symm))), fun (c3 : I' 84 (24 * j + k) = -1000000005) => ⟨12 + 5 * k + 2, ⟨by simp only [pk_mul, nI_add], by omega⟩, hV _ _ _ _ _ _ _ (nxt _ (if_pos c3).symm)⟩⟩⟩⟩
    · exfalso; rw [ez, nI_leI (by omega) (by omega)] at c1; omega
    · exfalso; rw [e0, nI_leI (by omega) (by omega)] at c2; omega
theorem c_pour {n : Nat} {a : Int32} (hn : I 79 0 = nI n) (hn10 : n ≤ 10) (hZ : ∀ j, j < 4 → ∃ c, I 83 j = nI c ∧ c ≤ 24) (hk : K (some (.int (gs_pour (I 79) (I 82) (I 83) (I 84) a).2)) (sx_up I 79 (gs_pour (I 79) (I 82) (I 83) (I 84) a).1) (sx_run rw m ln)) : sx_C 196 (d + 3) [.ref 78, .int a] I (sx_run rw m ln) K := by
  refine sx_enter (by decide +kernel) (Nat.le_of_ble_eq_true rfl) (sx_go m196 60 rfl (fun VV CC hV hC => ?_))
  generalize e : gs_pour (I 79) (I 82) (I 83) (I 84) a = g at hk
  unfold gs_pour at e
  have bad : ∀ x, (I 79, x) = g → K (some (.int x)) I (sx_run rw m ln) := by
    intro x h
    have := sx_kq h.symm hk
    rw [sx_upself] at this
    exact this
  refine hC _ _ _ _ _ (c_isSheet ⟨fun (c1 : ¬ gs_in a 0 (nI 3) = 0) => ?_, fun (c1 : gs_in a 0 (nI 3) = 0) => bad _ (by rw [if_pos c1] at e; exact e)⟩)
  obtain ⟨j, rfl, _, h3⟩ := gs_in_nat (a := 0) (by decide) c1 (by decide)
  obtain ⟨z, hz, hz24⟩ := hZ j (by omega)
  rw [if_neg c1, nI_clamp (by omega)] at e
  refine ⟨j, ⟨rfl, by omega⟩, fun (c2 : 0 ≤ I 82 j) => hV _ _ _ _ _ _ _ ?_, fun (c2 : ¬ 0 ≤ I 82 j) => bad _ ?_⟩
  · rw [if_neg (Int32.not_lt.mpr c2), hz, nI_clamp (by omega), gs_N_eq hn hn10] at e
    exact v_pour (d := d + 1) hn hn10 (by omega) hz hz24 (sx_kq e.symm hk) (min z n) 0 I (by omega) (sx_upself I 79).symm
  · rw [if_pos (Int32.not_le.mp c2)] at e
    exact e
end
