/-! ===== the class: a text read ===== -/
section
variable {d m : Nat} {I I0 : sx_I} {rw : Nat → Nat → Option Nat} {ln : Nat → Nat} {K : sx_K} {T : Nat → Nat} {n : Nat} {key : Int32}
theorem v1_readEnd {w br bg : Nat} {S : List Nat} {o : List (Nat × Nat)} {due : Bool} {cmp : Nat → Int32} (h : gy_rd I0 key S o w br bg due cmp I) (hb : o.length + S.length ≤ 96) (h8 : br ≤ 8)
    (hF : gy_run n key [] S o w br bg due cmp = .inl n → K (some (.int (nI n))) I (sx_run rw m ln))
    (hT : gy_run n key [] S o w br bg due cmp = .inr ((gy_pop 0 S o).2, w) → ∀ J, gy_rd I0 key (gy_pop 0 S o).1 (gy_pop 0 S o).2 w br bg due cmp J → K (some (.int (-1000000005))) J (sx_run rw m ln)) :
    (¬ I 46 8 = 0 → K (some (.int (nI n))) I (sx_run rw m ln)) ∧ (I 46 8 = 0 → (¬ I 46 6 ≤ 0 → K (some (.int (nI n))) I (sx_run rw m ln)) ∧ (I 46 6 ≤ 0 → ∀ J, gy_rd I0 key (gy_pop 0 S o).1 (gy_pop 0 S o).2 w br bg due cmp J → K (some (.int (-1000000005))) J (sx_run rw m ln))) := by
  have h6 := h.2.2.2.2.2.1
  have h7 := h.2.2.2.2.2.2.2.1
  have l6 : I 46 6 ≤ 0 ↔ br = 0 := by
    rw [h6]; exact (nI_leI (b := 0) (by omega) (by omega)).trans (by omega)
  have e : gy_run n key [] S o w br bg due cmp = if due = true ∨ 0 < br then .inl n else .inr ((gy_pop 0 S o).2, w) := rfl
  have ne : due ≠ true → I 46 8 = 0 := fun z => by rw [h7, if_neg z]
  refine ⟨fun c => hF ?_, fun c => ⟨fun c2 => hF ?_, fun c2 => hT ?_⟩⟩
  · rw [e, if_pos]
    by_cases z : due = true
    · exact Or.inl z
    · exact absurd (ne z) c
  · rw [e, if_pos]
    exact Or.inr (Nat.pos_of_ne_zero (fun z => c2 (l6.mpr z)))
  · rw [e, if_neg]
    rintro (z | z)
    · rw [h7, if_pos z] at c; exact absurd c (by decide)
    · have := l6.mp c2; omega
end
