/-! ===== a free post there always is ===== -/
theorem gs_pig : ∀ (n : Nat) (f g : Nat → Nat), (∀ i j, i ≤ n → j ≤ n → f i = f j → i = j) → (∀ j, j ≤ n → ∃ i, i < n ∧ f j = g i) → False
  | 0, f, g, _, h => by
    obtain ⟨i, hi, _⟩ := h 0 (Nat.le_refl 0)
    exact Nat.not_lt_zero i hi
  | n + 1, f, g, hinj, h => by
    by_cases he : ∃ j0, j0 ≤ n + 1 ∧ f j0 = g n
    · obtain ⟨j0, hj0, e0⟩ := he
      refine gs_pig n (fun j => if j < j0 then f j else f (j + 1)) g (fun i j hi hj e => ?_) (fun j hj => ?_)
      · have hq : (if i < j0 then i else i + 1) = (if j < j0 then j else j + 1) := by
          apply hinj
          · split <;> omega
          · split <;> omega
          · have e1 : f (if i < j0 then i else i + 1) = (if i < j0 then f i else f (i + 1)) := by split <;> rfl
            have e2 : f (if j < j0 then j else j + 1) = (if j < j0 then f j else f (j + 1)) := by split <;> rfl
            rw [e1, e2]
            exact e
        split at hq <;> split at hq <;> omega
      · have key : ∀ j', j' ≤ n + 1 → j' ≠ j0 → ∃ i, i < n ∧ f j' = g i := by
          intro j' h1 h2
          obtain ⟨i, hi, ei⟩ := h j' h1
          refine ⟨i, ?_, ei⟩
          rcases Nat.lt_or_ge i n with q | q
          · exact q
          · have : i = n := by omega
            subst this
            exact absurd (hinj j' j0 h1 hj0 (ei.trans e0.symm)) h2
        show ∃ i, i < n ∧ (if j < j0 then f j else f (j + 1)) = g i
        by_cases q : j < j0
        · rw [if_pos q]; exact key j (by omega) (by omega)
        · rw [if_neg q]; exact key (j + 1) (by omega) (by omega)
    · refine gs_pig n f g (fun i j hi hj e => hinj i j (by omega) (by omega) e) (fun j hj => ?_)
      obtain ⟨i, hi, ei⟩ := h j (by omega)
      refine ⟨i, ?_, ei⟩
      rcases Nat.lt_or_ge i n with q | q
      · exact q
      · have : i = n := by omega
        subst this
        exact absurd ⟨j, by omega, ei⟩ he
/-- from any post on, round the border, at most n on there is one that is nobody's -/
theorem gs_freepost {s : Nat → Int32} {n : Nat} (hn : n ≤ 10) (p : Nat) : ∃ j, j ≤ n ∧ ¬ gs_who s n (nI ((p + j) % 20)) < n := by
  refine Classical.byContradiction (fun hno => ?_)
  have h : ∀ j, j ≤ n → gs_who s n (nI ((p + j) % 20)) < n := by
    intro j hj
    refine Classical.byContradiction (fun q => hno ⟨j, hj, q⟩)
  have hat : ∀ j, j ≤ n → s (12 + 5 * gs_who s n (nI ((p + j) % 20)) + 1) = nI ((p + j) % 20) := by
    intro j hj
    exact of_decide_eq_true (gs_fst_lt _ n (h j hj))
  refine gs_pig n (fun j => gs_who s n (nI ((p + j) % 20))) (fun i => i) (fun i j hi hj e => ?_) (fun j hj => ⟨_, h j hj, rfl⟩)
  have e : gs_who s n (nI ((p + i) % 20)) = gs_who s n (nI ((p + j) % 20)) := e
  have e2 : nI ((p + i) % 20) = nI ((p + j) % 20) := by rw [← hat i hi, ← hat j hj, e]
  have e3 := (nI_eq (by omega) (by omega)).mp e2
  omega
