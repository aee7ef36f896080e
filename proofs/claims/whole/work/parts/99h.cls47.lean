/-! ===== the law: its start ===== -/
section
variable {d N : Nat} {K : sx_K}
set_option maxRecDepth 100000 in
theorem lw_start (hN2 : N ≤ 3072) (hK : ∀ J G, K (some (.int (nI 1))) J G) {I : sx_I} {ln : Nat → Nat} (hN : ln 14 = N) : sx_V 229 (d + 68) 600000 7302250 K 0 [(0, .ref 14)] [] I (fun _ _ => none, .inl 15, ln) := by
  refine sx_go m229 100 rfl (fun VV CC hV hC => ?_)
  refine sx_w_new (n := 99) (cs := x229_3) (p0 := 15) rfl (Nat.le_of_ble_eq_true rfl) (Nat.le_of_ble_eq_true rfl) (by decide) (by decide) ?_
  refine sx_w_dup (cs := x229_4) ?_
  refine sx_w_spec (cs := x229_7) (a := 15) (as := []) (r := [.ref 15]) rfl (Nat.le_of_ble_eq_true rfl) (Nat.le_of_ble_eq_true rfl) rfl ?_
  refine hC _ _ _ _ _ (i_main (d := d + 63) (sx_up_same _ _ _) (fun J R' r1 r2 r3 j0 jS jL => ?_))
  refine sx_w_ast (cs := x229_8) rfl ?_
  refine sx_w_new (cs := x229_11) (p0 := 81) rfl (Nat.le_of_ble_eq_true rfl) (Nat.le_of_ble_eq_true rfl) (by decide) (by decide) ?_
  refine sx_w_dup (cs := x229_12) ?_
  refine sx_w_spec (cs := x229_15) (a := 78) (as := []) (r := [.ref 78]) rfl (Nat.le_of_ble_eq_true rfl) (Nat.le_of_ble_eq_true rfl) rfl ?_
  refine hC _ _ _ _ _ (i_model (d := d + 66) sx_upR_same (fun L l1 l2 l3 l4 => ?_))
  have g : ∀ q, (q < 78 ∨ 96 < q) → L q = J q := fun q hq => (l1 q (by omega)).trans (sx_up_ne (by omega))
  have h : lw L (fun _ _ => none) 0 ln := by
    refine lw_init (j0.cg (fun q hq => g q (by omega))) (fun j hj => ?_) (fun j hj => ?_) ((l1 78 (by omega)).trans (sx_up_same _ _ _)) l2 l3 l4
    · have := jS j hj
      rw [g _ (by omega), g _ (by omega)]; exact this
    · rw [g _ (by omega)]; exact jL j hj
  refine hV _ _ _ _ _ _ _ (sx_V.cg (rw := fun _ _ => none) (fun q h1 h2 => ?_) (lw_18 (d := d) hN2 hK 512 0 _ _ L (fun _ _ => none) 0 ln hN (by omega) (by omega) (by decide) (by decide) h))
  by_cases z : q = 78
  · rw [z, sx_upR_same]
  · rw [sx_upR_ne z, sx_upR_ne z]
    rcases Nat.lt_or_ge q 78 with y | y
    · exact r1 q h1 y
    · rcases Nat.lt_or_ge q 100 with x | x
      · rw [r2 q y x]
        rcases Nat.lt_or_ge q 97 with w | w
        · have : q = 79 ∨ q = 80 ∨ q = 81 ∨ q = 82 ∨ q = 83 ∨ q = 84 ∨ q = 85 ∨ q = 86 ∨ q = 87 ∨ q = 88 ∨ q = 89 ∨ q = 90 ∨ q = 91 ∨ q = 92 ∨ q = 93 ∨ q = 94 ∨ q = 95 ∨ q = 96 := by omega
          rcases this with z | z | z | z | z | z | z | z | z | z | z | z | z | z | z | z | z | z <;> subst z <;> rfl
        · exact (i_junk (by omega)).symm
      · exact r3 q x h2
end
