/-! ===== the reference: a sheet is read against the posts ===== -/
def gs_readF (s R : Nat → Int32) (j i : Nat) : Bool := decide (¬ R (24 * j + i) = -1000000005 ∧ (s 0 ≤ nI i ∨ ¬ R (24 * j + i) = s (12 + 5 * i + 1)))
def gs_reads (s S Z R : Nat → Int32) (a : Int32) : Int32 := if gs_in a 0 (nI 3) = 0 then -1000000001 else if S a.toNatClampNeg < 0 then -1000000011 else if gs_fst (gs_readF s R a.toNatClampNeg) (Z a.toNatClampNeg).toNatClampNeg < (Z a.toNatClampNeg).toNatClampNeg then nI (gs_fst (gs_readF s R a.toNatClampNeg) (Z a.toNatClampNeg).toNatClampNeg) else -1000000005
section
variable {d m : Nat} {I : sx_I} {rw : Nat → Nat → Option Nat} {ln : Nat → Nat} {K : sx_K}
theorem v_reads {n j z : Nat} (hn : I 79 0 = nI n) (hn10 : n ≤ 10) (hj : j < 4) (hz : I 83 j = nI z) (hz24 : z ≤ 24) (hk : K (some (.int (if gs_fst (gs_readF (I 79) (I 84) j) z < z then nI (gs_fst (gs_readF (I 79) (I 84) j) z) else -1000000005))) I (sx_run rw m ln)) :
    ∀ (r k : Nat) (I' : sx_I), k + r = z → (I' = I ∧ ∀ i, i < k → gs_readF (I 79) (I 84) j i = false) → sx_V 197 (d + 3) 0 0 K 25 [(0, .ref 78), (1, .int (nI j)), (2, .int (nI k))] [] I' (sx_run rw m ln) := by
  refine sx_for z (fun I' h => ?_) (fun k I' hk2 h ih => ?_)
  · obtain ⟨rfl, hbef⟩ := h
    rw [gs_fst_none _ _ hbef, if_neg (Nat.lt_irrefl _)] at hk
    refine sx_go m197 60 rfl (fun VV CC hV hC => ?_)
    refine ⟨j, ⟨rfl, by omega⟩, fun _ => hk, fun c1 => ?_⟩
    exfalso; rw [hz] at c1; exact c1 (nI_le (Nat.le_refl z) (by omega))
  · obtain ⟨rfl, hbef⟩ := h
    have nxt : gs_readF (I' 79) (I' 84) j k = false → sx_V 197 (d + 3) 0 0 K 25 [(0, .ref 78), (1, .int (nI j)), (2, .int (nI k + nI 1))] [] I' (sx_run rw m ln) := by
      intro e
      have := ih I' ⟨rfl, fun i hi => by
        rcases Nat.lt_or_ge i k with q | q
        · exact hbef i q
        · have : i = k := by omega
          subst this; exact e⟩
      rw [nI_succ] at this
      exact this
    have fin : gs_readF (I' 79) (I' 84) j k = true → K (some (.int (nI k))) I' (sx_run rw m ln) := by
      intro e
      rw [gs_fst_at _ z k hk2 hbef e, if_pos hk2] at hk
      exact hk
    refine sx_go m197 60 rfl (fun VV CC hV hC => ?_)
    refine ⟨j, ⟨rfl, by omega⟩, fun c1 => ?_, fun c1 => ⟨24 * j + k, ⟨by simp only [pk_mul, nI_add], by omega⟩, fun (c2 : I' 84 (24 * j + k) = -1000000005) => hV _ _ _ _ _ _ _ (nxt (decide_eq_false (fun h => h.1 c2))), fun (c2 : ¬ I' 84 (24 * j + k) = -1000000005) => ⟨0, ⟨rfl, by omega⟩, fun (c3 : I' 79 0 ≤ nI k) => fin (decide_eq_true ⟨c2, Or.inl c3⟩), fun (c3 : ¬ I' 79 0 ≤ nI k) => ?_⟩⟩⟩
    · exfalso; rw [hz] at c1; exact nI_ge hk2 (by omega) c1
    · have hkn : k < n := by
        rw [hn, nI_leI (by omega) (by omega)] at c3
        omega
      refine hC _ _ _ _ _ (c_of rfl rfl (by omega) ⟨fun (c4 : I' 84 (24 * j + k) = I' 79 (12 + 5 * k + 1)) => hV _ _ _ _ _ _ _ (nxt (decide_eq_false (fun h => h.2.elim c3 (fun q => q c4)))), fun (c4 : ¬ I' 84 (24 * j + k) = I' 79 (12 + 5 * k + 1)) => fin (decide_eq_true ⟨c2, Or.inr c4⟩)⟩)
theorem c_reads {n : Nat} {a : Int32} (hn : I 79 0 = nI n) (hn10 : n ≤ 10) (hZ : ∀ j, j < 4 → ∃ c, I 83 j = nI c ∧ c ≤ 24) (hk : K (some (.int (gs_reads (I 79) (I 82) (I 83) (I 84) a))) I (sx_run rw m ln)) : sx_C 197 (d + 3) [.ref 78, .int a] I (sx_run rw m ln) K := by
  refine sx_enter (by decide +kernel) (Nat.le_of_ble_eq_true rfl) (sx_go m197 60 rfl (fun VV CC hV hC => ?_))
  unfold gs_reads at hk
  refine hC _ _ _ _ _ (c_isSheet ⟨fun (c1 : ¬ gs_in a 0 (nI 3) = 0) => ?_, fun (c1 : gs_in a 0 (nI 3) = 0) => sx_kk (if_pos c1).symm hk⟩)
  rw [if_neg c1] at hk
  obtain ⟨j, rfl, _, h3⟩ := gs_in_nat (a := 0) (by decide) c1 (by decide)
  obtain ⟨z, hz, hz24⟩ := hZ j (by omega)
  rw [nI_clamp (by omega), hz, nI_clamp (by omega)] at hk
  refine ⟨j, ⟨rfl, by omega⟩, fun (c2 : 0 ≤ I 82 j) => hV _ _ _ _ _ _ _ ?_, fun (c2 : ¬ 0 ≤ I 82 j) => sx_kk (if_pos (Int32.not_le.mp c2)).symm hk⟩
  rw [if_neg (Int32.not_lt.mpr c2)] at hk
  exact v_reads (d := d) hn hn10 (by omega) hz hz24 hk z 0 I (by omega) ⟨rfl, fun i hi => absurd hi (Nat.not_lt_zero i)⟩
end
