/-! ===== the class: the reader starts ===== -/
section
variable {d m : Nat} {I I0 : sx_I} {rw : Nat → Nat → Option Nat} {ln : Nat → Nat} {K : sx_K}
theorem c1_start (hk : ∀ J, gy_rd I (I 46 0) [] [] 0 0 0 true (upd (I 49) 0 0) J → K none J (sx_run rw m ln)) : sx_C 33 (d + 1) [.ref 46] I (sx_run rw m ln) K := by
  refine sx_enter (by decide +kernel) (Nat.le_of_ble_eq_true rfl) (sx_go m33 100 rfl (fun VV CC hV hC => ?_))
  have fin : ∀ J1 J2 J3 J4 J5 J6 : sx_I, J1 = sx_up I 46 (upd (I 46) 1 (nI 0)) → J2 = sx_up J1 46 (upd (J1 46) 3 (nI 0)) → J3 = sx_up J2 46 (upd (J2 46) 5 (nI 0)) → J4 = sx_up J3 46 (upd (J3 46) 6 (nI 0)) → J5 = sx_up J4 46 (upd (J4 46) 7 (nI 0)) → J6 = sx_up J5 46 (upd (J5 46) 8 (nI 1)) → K none (sx_up J6 49 (upd (J6 49) 0 0)) (sx_run rw m ln) := by
    intro J1 J2 J3 J4 J5 J6 e1 e2 e3 e4 e5 e6
    have g1 : J1 46 = upd (I 46) 1 (nI 0) := by rw [e1, sx_up_same]
    have g2 : J2 46 = upd (J1 46) 3 (nI 0) := by rw [e2, sx_up_same]
    have g3 : J3 46 = upd (J2 46) 5 (nI 0) := by rw [e3, sx_up_same]
    have g4 : J4 46 = upd (J3 46) 6 (nI 0) := by rw [e4, sx_up_same]
    have g5 : J5 46 = upd (J4 46) 7 (nI 0) := by rw [e5, sx_up_same]
    have g6 : J6 46 = upd (J5 46) 8 (nI 1) := by rw [e6, sx_up_same]
    have ne : ∀ q, q ≠ 46 → J6 q = I q := fun q hq => by rw [e6, sx_up_ne hq, e5, sx_up_ne hq, e4, sx_up_ne hq, e3, sx_up_ne hq, e2, sx_up_ne hq, e1, sx_up_ne hq]
    refine hk _ ⟨fun q hq => ?_, ?_, ?_, ?_, ?_, ?_, ?_, ?_, ?_, trivial, trivial⟩
    · rw [sx_up_ne (by omega)]; exact ne q (by omega)
    · rw [sx_up_ne (by decide), g6, pk_un (by decide), g5, pk_un (by decide), g4, pk_un (by decide), g3, pk_un (by decide), g2, pk_un (by decide), g1, pk_un (by decide)]
    · rw [sx_up_ne (by decide), g6, pk_un (by decide), g5, pk_un (by decide), g4, pk_un (by decide), g3, pk_un (by decide), g2, pk_un (by decide), g1, pk_us]
    · rw [sx_up_ne (by decide), g6, pk_un (by decide), g5, pk_un (by decide), g4, pk_un (by decide), g3, pk_un (by decide), g2, pk_us]; rfl
    · rw [sx_up_ne (by decide), g6, pk_un (by decide), g5, pk_un (by decide), g4, pk_un (by decide), g3, pk_us]; rfl
    · rw [sx_up_ne (by decide), g6, pk_un (by decide), g5, pk_un (by decide), g4, pk_us]
    · rw [sx_up_ne (by decide), g6, pk_un (by decide), g5, pk_us]
    · rw [sx_up_ne (by decide), g6, pk_us]; rfl
    · rw [sx_up_same, ne 49 (by decide)]
  refine ⟨Or.inr rfl, 0, ⟨rfl, by omega⟩, ?_⟩
  exact fin _ _ _ _ _ _ rfl rfl rfl rfl rfl rfl
end
