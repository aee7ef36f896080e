/-! ===== pure: words and signs of a tape; a text read from left to right with one stack ===== -/
def gy_so (c : Nat) : Nat := if c = 32 then 0 else if 97 ≤ c ∧ c ≤ 122 then 1 else if 48 ≤ c ∧ c ≤ 57 then 2 else 3
def gy_bl (T : Nat → Nat) : Nat → Nat → Nat
  | 0, p => p
  | k + 1, p => if T p = 32 then gy_bl T k (p + 1) else p
def gy_rn (T : Nat → Nat) (s : Nat) : Nat → Nat → Nat
  | 0, p => p
  | k + 1, p => if gy_so (T p) = s then gy_rn T s k (p + 1) else p
def gy_to (T : Nat → Nat) (n p : Nat) : Nat := if gy_so (T p) = 3 then p + 1 else gy_rn T (gy_so (T p)) (n - (p + 1)) (p + 1)
def gy_val (T : Nat → Nat) (p : Nat) : Nat → Nat
  | 0 => 0
  | k + 1 => 10 * gy_val T p k + (T (p + k) - 48)
def gy_w (T : Nat → Nat) (e : Nat) : Prop := 0 < e ∧ gy_so (T (e - 1)) ≠ 3
def gy_one (T : Nat → Nat) (p q : Nat) (l : List (Nat × Nat × Nat)) : List (Nat × Nat × Nat) :=
  if gy_so (T p) = 3 then (3, T p, p) :: l
  else if gy_so (T p) = 2 then (if 4 < q - p then [(0, 0, p)] else (2, gy_val T p (q - p), p) :: l)
  else if q - p = 1 then (1, T p, p) :: l else [(0, 0, p)]
def gy_tks (T : Nat → Nat) (n : Nat) : Nat → Nat → List (Nat × Nat × Nat)
  | 0, _ => []
  | k + 1, e =>
    if n ≤ gy_bl T (n - e) e then []
    else if (gy_so (T (gy_bl T (n - e) e)) ≠ 3 ∧ gy_bl T (n - e) e = e) ∧ 0 < e ∧ gy_so (T (e - 1)) ≠ 3 then [(0, 0, gy_bl T (n - e) e)]
    else gy_one T (gy_bl T (n - e) e) (gy_to T n (gy_bl T (n - e) e)) (gy_tks T n k (gy_to T n (gy_bl T (n - e) e)))
def gy_tk (T : Nat → Nat) (n e : Nat) : List (Nat × Nat × Nat) := gy_tks T n n e
theorem gy_bl_ge (T : Nat → Nat) : ∀ k p, p ≤ gy_bl T k p
  | 0, p => Nat.le_refl p
  | k + 1, p => by
    unfold gy_bl
    split
    · have := gy_bl_ge T k (p + 1); omega
    · exact Nat.le_refl p
theorem gy_bl_le (T : Nat → Nat) : ∀ k p, gy_bl T k p ≤ p + k
  | 0, p => Nat.le_refl p
  | k + 1, p => by
    unfold gy_bl
    split
    · have := gy_bl_le T k (p + 1); omega
    · omega
theorem gy_bl_no (T : Nat → Nat) : ∀ k p, gy_bl T k p < p + k → T (gy_bl T k p) ≠ 32
  | 0, p, h => absurd h (Nat.lt_irrefl p)
  | k + 1, p, h => by
    unfold gy_bl at h ⊢
    split
    · rename_i c; rw [if_pos c] at h; exact gy_bl_no T k (p + 1) (by omega)
    · rename_i c; exact c
theorem gy_rn_ge (T : Nat → Nat) (s : Nat) : ∀ k p, p ≤ gy_rn T s k p
  | 0, p => Nat.le_refl p
  | k + 1, p => by
    unfold gy_rn
    split
    · have := gy_rn_ge T s k (p + 1); omega
    · exact Nat.le_refl p
theorem gy_rn_le (T : Nat → Nat) (s : Nat) : ∀ k p, gy_rn T s k p ≤ p + k
  | 0, p => Nat.le_refl p
  | k + 1, p => by
    unfold gy_rn
    split
    · have := gy_rn_le T s k (p + 1); omega
    · omega
theorem gy_rn_last (T : Nat → Nat) (s : Nat) : ∀ k p, 0 < p → gy_so (T (p - 1)) = s → gy_so (T (gy_rn T s k p - 1)) = s
  | 0, p, _, h => h
  | k + 1, p, h0, h => by
    unfold gy_rn
    split
    · rename_i c; exact gy_rn_last T s k (p + 1) (by omega) c
    · exact h
theorem gy_to_gt (T : Nat → Nat) (n p : Nat) : p < gy_to T n p := by
  unfold gy_to
  split
  · omega
  · exact gy_rn_ge T _ _ (p + 1)
theorem gy_to_le (T : Nat → Nat) (n p : Nat) (h : p < n) : gy_to T n p ≤ n := by
  unfold gy_to
  split
  · omega
  · have := gy_rn_le T (gy_so (T p)) (n - (p + 1)) (p + 1); omega
theorem gy_to_last (T : Nat → Nat) (n p : Nat) : gy_so (T (gy_to T n p - 1)) = gy_so (T p) := by
  unfold gy_to
  split
  · rfl
  · exact gy_rn_last T _ _ (p + 1) (by omega) rfl
theorem gy_tks_fuel (T : Nat → Nat) (n : Nat) : ∀ k e, n ≤ e + k → gy_tks T n (k + 1) e = gy_tks T n k e
  | 0, e, h => by
    have : n ≤ gy_bl T (n - e) e := Nat.le_trans (by omega) (gy_bl_ge T (n - e) e)
    show (if _ then _ else _) = _
    rw [if_pos this]; rfl
  | k + 1, e, h => by
    have hq := gy_to_gt T n (gy_bl T (n - e) e)
    have hb := gy_bl_ge T (n - e) e
    show (if _ then _ else if _ then _ else gy_one T _ _ (gy_tks T n (k + 1) _)) = _
    rw [gy_tks_fuel T n k _ (by omega)]; rfl
theorem gy_tk_eq (T : Nat → Nat) (n e : Nat) : gy_tk T n e =
    if n ≤ gy_bl T (n - e) e then []
    else if (gy_so (T (gy_bl T (n - e) e)) ≠ 3 ∧ gy_bl T (n - e) e = e) ∧ 0 < e ∧ gy_so (T (e - 1)) ≠ 3 then [(0, 0, gy_bl T (n - e) e)]
    else gy_one T (gy_bl T (n - e) e) (gy_to T n (gy_bl T (n - e) e)) (gy_tk T n (gy_to T n (gy_bl T (n - e) e))) := by
  show gy_tks T n n e = _
  rw [← gy_tks_fuel T n n e (by omega)]
  rfl
theorem gy_tk_len (T : Nat → Nat) (n : Nat) : ∀ k e, n - e ≤ k → (gy_tk T n e).length ≤ k
  | 0, e, h => by
    have : n ≤ gy_bl T (n - e) e := Nat.le_trans (by omega) (gy_bl_ge T (n - e) e)
    rw [gy_tk_eq, if_pos this]; exact Nat.le_refl 0
  | k + 1, e, h => by
    have hq := gy_to_gt T n (gy_bl T (n - e) e)
    have hb := gy_bl_ge T (n - e) e
    have ih := gy_tk_len T n k (gy_to T n (gy_bl T (n - e) e)) (by omega)
    rw [gy_tk_eq]
    split
    · exact Nat.zero_le _
    · split
      · exact Nat.succ_le_succ (Nat.zero_le _)
      · unfold gy_one
        split
        · exact Nat.succ_le_succ ih
        · split
          · split
            · exact Nat.succ_le_succ (Nat.zero_le _)
            · exact Nat.succ_le_succ ih
          · split
            · exact Nat.succ_le_succ ih
            · exact Nat.succ_le_succ (Nat.zero_le _)
theorem gy_val_lt (T : Nat → Nat) (p : Nat) : ∀ k, (∀ i, i < k → T (p + i) ≤ 57) → gy_val T p k < 10 ^ k
  | 0, _ => Nat.zero_lt_one
  | k + 1, h => by
    have := gy_val_lt T p k (fun i hi => h i (by omega))
    have h2 := h k (by omega)
    show 10 * gy_val T p k + (T (p + k) - 48) < 10 ^ (k + 1)
    rw [Nat.pow_succ]; omega
theorem gy_rn_so (T : Nat → Nat) (s : Nat) : ∀ k p i, p ≤ i → i < gy_rn T s k p → gy_so (T i) = s
  | 0, p, i, h1, h2 => absurd h2 (Nat.not_lt.mpr h1)
  | k + 1, p, i, h1, h2 => by
    unfold gy_rn at h2
    by_cases c : gy_so (T p) = s
    · rw [if_pos c] at h2
      by_cases e : i = p
      · rw [e]; exact c
      · exact gy_rn_so T s k (p + 1) i (by omega) h2
    · rw [if_neg c] at h2; omega
theorem gy_so2 {c : Nat} : gy_so c = 2 ↔ 48 ≤ c ∧ c ≤ 57 := by unfold gy_so; split <;> (try split) <;> (try split) <;> omega
theorem gy_so1 {c : Nat} : gy_so c = 1 ↔ 97 ≤ c ∧ c ≤ 122 := by unfold gy_so; split <;> (try split) <;> (try split) <;> omega
theorem gy_so0 {c : Nat} : gy_so c = 0 ↔ c = 32 := by unfold gy_so; split <;> (try split) <;> (try split) <;> omega
theorem gy_so4 (c : Nat) : gy_so c < 4 := by unfold gy_so; split <;> (try split) <;> (try split) <;> omega
/-! signs, the stack -/
def gy_tn (c : Nat) : Nat := if c = 124 then 1 else if c = 38 then 2 else if c = 60 ∨ c = 61 ∨ c = 62 then 3 else if c = 43 ∨ c = 45 then 4 else if c = 42 ∨ c = 47 then 5 else 0
def gy_pop (l : Nat) : List Nat → List (Nat × Nat) → List Nat × List (Nat × Nat)
  | [], o => ([], o)
  | c :: S, o => if c ≠ 40 ∧ l ≤ gy_tn c then gy_pop l S ((2, c) :: o) else (c :: S, o)
def gy_eb : List Nat → List (Nat × Nat) → Nat → List Nat × List (Nat × Nat) × Nat
  | [], o, b => ([], o, b)
  | c :: S, o, b => if c = 33 then gy_eb S ((2, 33) :: o) (b - 1) else (c :: S, o, b)
def gy_nm (key : Int32) (c : Nat) : Bool := decide ((key = 0 ∧ (c = 119 ∨ c = 100 ∨ c = 112)) ∨ (key = nI 1 ∧ (c = 104 ∨ c = 108)) ∨ (key = nI 2 ∧ (c = 119 ∨ c = 100)))
theorem gy_nm_iff {key : Int32} {c : Nat} : gy_nm key c = true ↔ gs_nmok key c := decide_eq_true_iff
def gy_run (n : Nat) (key : Int32) : List (Nat × Nat × Nat) → List Nat → List (Nat × Nat) → Nat → Nat → Nat → Bool → (Nat → Int32) → Nat ⊕ (List (Nat × Nat) × Nat)
  | [], S, o, w, br, _, due, _ => if due = true ∨ 0 < br then .inl n else .inr ((gy_pop 0 S o).2, w)
  | (s, v, p) :: ts, S, o, w, br, bg, due, cmp =>
    if s = 0 then .inl p
    else if due = true then
      (if s = 2 then gy_run n key ts (gy_eb S ((0, v) :: o) bg).1 (gy_eb S ((0, v) :: o) bg).2.1 (w + 1) br (gy_eb S ((0, v) :: o) bg).2.2 false cmp
      else if s = 1 then
        (if gy_nm key v = true then gy_run n key ts (gy_eb S ((1, v) :: o) bg).1 (gy_eb S ((1, v) :: o) bg).2.1 (w + 1) br (gy_eb S ((1, v) :: o) bg).2.2 false cmp
        else .inl p)
      else if v = 33 ∧ bg < 8 then gy_run n key ts (33 :: S) o w br (bg + 1) true cmp
      else if v = 40 ∧ br < 8 then gy_run n key ts (40 :: S) o w (br + 1) bg true (upd cmp (br + 1) 0)
      else .inl p)
    else if s ≠ 3 then .inl p
    else if v = 41 then
      (if br = 0 then .inl p
      else gy_run n key ts (gy_eb (gy_pop 0 S o).1.tail (gy_pop 0 S o).2 bg).1 (gy_eb (gy_pop 0 S o).1.tail (gy_pop 0 S o).2 bg).2.1 w (br - 1) (gy_eb (gy_pop 0 S o).1.tail (gy_pop 0 S o).2 bg).2.2 false cmp)
    else if gy_tn v = 0 ∨ (gy_tn v = 3 ∧ cmp br ≠ 0) then .inl p
    else gy_run n key ts (v :: (gy_pop (gy_tn v) S o).1) (gy_pop (gy_tn v) S o).2 w br bg true (if gy_tn v ≤ 3 then upd cmp br (if gy_tn v = 3 then nI 1 else 0) else cmp)
def gy_low (l : Nat) : List Nat → Prop
  | [] => True
  | c :: _ => c = 40 ∨ (0 < gy_tn c ∧ gy_tn c < l)
def gy_ps : List Nat → List (Nat × Nat) → List (Nat × Nat)
  | [], o => o
  | c :: P, o => gy_ps P ((2, c) :: o)
theorem gy_ps_snoc (c : Nat) : ∀ P o, gy_ps (P ++ [c]) o = (2, c) :: gy_ps P o
  | [], o => rfl
  | x :: P, o => gy_ps_snoc c P ((2, x) :: o)
theorem gy_pop_app {l : Nat} {S : List Nat} (hl : gy_low (max l 1) S) : ∀ (P : List Nat) (o : List (Nat × Nat)), (∀ c, c ∈ P → max l 1 ≤ gy_tn c) → gy_pop l (P ++ S) o = (S, gy_ps P o)
  | [], o, _ => by
    cases S with
    | nil => rfl
    | cons c S =>
      show (if _ then _ else _) = _
      rw [if_neg]; rfl
      rintro ⟨h1, h2⟩
      rcases hl with h | ⟨h3, h4⟩
      · exact h1 h
      · omega
  | c :: P, o, h => by
    have h1 := h c (List.mem_cons_self ..)
    show (if _ then _ else _) = _
    rw [if_pos ⟨fun e => by rw [e] at h1; revert h1; show ¬ max l 1 ≤ 0; omega, by omega⟩]
    exact gy_pop_app hl P _ (fun x hx => h x (List.mem_cons_of_mem _ hx))
theorem gy_eb_low {l : Nat} {S : List Nat} {o : List (Nat × Nat)} {b : Nat} (hl : gy_low l S) : gy_eb S o b = (S, o, b) := by
  cases S with
  | nil => rfl
  | cons c S =>
    show (if _ then _ else _) = _
    rw [if_neg]
    intro e
    rcases hl with h | ⟨h3, -⟩
    · omega
    · rw [e] at h3; exact absurd h3 (by decide)
/-- behind a piece: the sign at the head does not go on with the level l -/
def gy_stop (l : Nat) (c : Int32) : List (Nat × Nat × Nat) → Prop
  | [] => True
  | (s, v, _) :: _ => s = 3 → gy_tn v < l ∨ (gy_tn v = 3 ∧ c ≠ 0)
theorem gy_run_join {n : Nat} {key : Int32} {v p l w br bg : Nat} {ts : List (Nat × Nat × Nat)} {P S : List Nat} {o : List (Nat × Nat)} {cmp : Nat → Int32} (hv : gy_tn v = l) (h1 : 1 ≤ l) (hc : l = 3 → cmp br = 0) (hP : ∀ c, c ∈ P → l ≤ gy_tn c) (hS : gy_low l S) :
    gy_run n key ((3, v, p) :: ts) (P ++ S) o w br bg false cmp = gy_run n key ts (v :: S) (gy_ps P o) w br bg true (if l ≤ 3 then upd cmp br (if l = 3 then nI 1 else 0) else cmp) := by
  have e := gy_pop_app (l := l) (S := S) (by rw [show max l 1 = l by omega]; exact hS) P o (fun c hc => by have := hP c hc; omega)
  have h41 : v ≠ 41 := fun h => by rw [h] at hv; have : gy_tn 41 = 0 := by decide
                                   omega
  show (if (3 : Nat) = 0 then _ else if false = true then _ else if (3 : Nat) ≠ 3 then _ else if _ then _ else if _ then _ else _) = _
  rw [if_neg (by decide), if_neg (by decide), if_neg (by decide), if_neg h41, if_neg (by
    rintro (h | ⟨h2, h3⟩)
    · omega
    · exact h3 (hc (by omega))), hv, e]
/-- behind a piece nothing of a text goes on: a fault -/
theorem gy_run_bad {n : Nat} {key : Int32} {s v p w br bg : Nat} {ts : List (Nat × Nat × Nat)} {S : List Nat} {o : List (Nat × Nat)} {cmp : Nat → Int32} (hs : gy_stop 1 (cmp br) ((s, v, p) :: ts)) (h41 : ¬ (s = 3 ∧ v = 41 ∧ 0 < br)) :
    gy_run n key ((s, v, p) :: ts) S o w br bg false cmp = .inl p := by
  show (if _ then _ else if false = true then _ else if _ then _ else if _ then _ else if _ then _ else _) = _
  by_cases c0 : s = 0
  · rw [if_pos c0]
  · rw [if_neg c0, if_neg (by decide)]
    by_cases c3 : s ≠ 3
    · rw [if_pos c3]
    · rw [if_neg c3]
      have c3 : s = 3 := by omega
      by_cases c41 : v = 41
      · rw [if_pos c41, if_pos (by omega)]
      · rw [if_neg c41, if_pos]
        rcases hs c3 with h | h
        · exact Or.inl (by omega)
        · exact Or.inr h
/-! the steps of a text -/
def gy_hg : List (Nat × Nat) → Nat
  | [] => 0
  | (w, v) :: o => if w = 2 then (if v = 33 then gy_hg o else gy_hg o - 1) else gy_hg o + 1
def gy_ok (key : Int32) : List (Nat × Nat) → Prop
  | [] => True
  | (w, v) :: o => gy_ok key o ∧ ((w = 0 ∧ v ≤ 9999) ∨ (w = 1 ∧ gs_nmok key v) ∨ (w = 2 ∧ v = 33 ∧ 1 ≤ gy_hg o) ∨ (w = 2 ∧ 0 < gy_tn v ∧ 2 ≤ gy_hg o))
def gy_out (f : Nat → Int32) : List (Nat × Nat) → Prop
  | [] => True
  | (w, v) :: o => f (2 * o.length) = nI w ∧ f (2 * o.length + 1) = nI v ∧ gy_out f o
theorem gy_out_cg {f g : Nat → Int32} : ∀ o : List (Nat × Nat), (∀ i, i < 2 * o.length → g i = f i) → gy_out f o → gy_out g o
  | [], _, _ => trivial
  | (w, v) :: o, h, ⟨h1, h2, h3⟩ => by
    have : ((w, v) :: o).length = o.length + 1 := rfl
    exact ⟨(h _ (by omega)).trans h1, (h _ (by omega)).trans h2, gy_out_cg o (fun i hi => h i (by omega)) h3⟩
