/-! ===== the class: a word or sign goes on ===== -/
def gy_inv (k : Nat) (S : List Nat) (o : List (Nat × Nat)) (br bg : Nat) : Prop := o.length + S.length ≤ k ∧ gy_n3 S ≤ bg ∧ bg ≤ 8 ∧ br ≤ 8
section
variable {d m : Nat} {I I0 : sx_I} {rw : Nat → Nat → Option Nat} {ln : Nat → Nat} {K : sx_K} {T : Nat → Nat} {n w br bg : Nat} {S : List Nat} {o : List (Nat × Nat)} {due : Bool} {cmp : Nat → Int32} {key : Int32}
theorem gy_run_nd {s v p : Nat} {l : List (Nat × Nat × Nat)} (h : s ≠ 3) : gy_run n key ((s, v, p) :: l) S o w br bg false cmp = .inl p := by
  show (if s = 0 then _ else if false = true then _ else if s ≠ 3 then _ else _) = _
  by_cases c : s = 0
  · rw [if_pos c]
  · rw [if_neg c, if_neg (by decide), if_pos h]
theorem c1_goesOn {k p : Nat} {x y : Int32} (hx : x = nI p) (hp : p < n) (hy : y = nI (gy_to T n p)) (hT : gy_b5 T n I) (hs0 : gy_so (T p) ≠ 0) (hkey : key = 0 ∨ key = nI 1 ∨ key = nI 2)
    (h : gy_rd I0 key S o w br bg due cmp I) (hi : gy_inv k S o br bg) (hk : k < 96)
    (h0 : (∀ l, gy_run n key (gy_one T p (gy_to T n p) l) S o w br bg due cmp = .inl p) → K (some (.int (nI 0))) I (sx_run rw m ln))
    (h1 : ∀ J S' o' w' br' bg' due' cmp', gy_rd I0 key S' o' w' br' bg' due' cmp' J → gy_inv (k + 1) S' o' br' bg' → (∀ l, gy_run n key (gy_one T p (gy_to T n p) l) S o w br bg due cmp = gy_run n key l S' o' w' br' bg' due' cmp') → K (some (.int (nI 1))) J (sx_run rw m ln)) :
    sx_C 39 (d + 6) [.ref 46, .ref 50, .int x, .int y] I (sx_run rw m ln) K := by
  subst hx; subst hy
  obtain ⟨i1, i2, i3, i4⟩ := hi
  have hn := hT.1
  obtain ⟨e1, l1⟩ := hT.2 p hp
  have gt := gy_to_gt T n p
  have le := gy_to_le T n p hp
  have s4 := gy_so4 (T p)
  have h8 := h.2.2.2.2.2.2.2.1
  have sq : ∀ b, b < 4 → (nI (gy_so (T p)) = nI b ↔ gy_so (T p) = b) := fun b hb => nI_eq (by omega) (by omega)
  have nd : due = false → I 46 8 = 0 := fun z => by rw [h8, z]; rfl
  have yd : due = true → ¬ I 46 8 = 0 := fun z => by rw [h8, z]; decide
  have hdig : gy_so (T p) = 2 → ∀ i, i < gy_to T n p - p → gy_so (T (p + i)) = 2 := by
    intro s2 i hi
    by_cases z : i = 0
    · rw [z]; exact s2
    · refine gy_rn_so T 2 (n - (p + 1)) (p + 1) (p + i) (by omega) ?_
      have : gy_to T n p = gy_rn T 2 (n - (p + 1)) (p + 1) := by
        unfold gy_to; rw [if_neg (by omega), s2]
      rw [← this]; omega
  generalize gy_to T n p = q at *
  refine sx_enter (by decide +kernel) (Nat.le_of_ble_eq_true rfl) (sx_go m39 100 rfl (fun VV CC hV hC => ?_))
  refine ⟨p, ⟨rfl, by omega⟩, hC _ _ _ _ _ (c1_sortOf (d := d + 4) e1 l1 ?_)⟩
  refine ⟨fun (c1 : nI (gy_so (T p)) = nI 1) => ?_, fun (c1 : ¬ nI (gy_so (T p)) = nI 1) => ⟨fun (c2 : nI (gy_so (T p)) = nI 2) => ?_, fun (c2 : ¬ nI (gy_so (T p)) = nI 2) => ?_⟩⟩
  · rw [sq 1 (by decide)] at c1
    have one : ∀ l, gy_one T p q l = if q - p = 1 then (1, T p, p) :: l else [(0, 0, p)] := fun l => by
      unfold gy_one; rw [if_neg (by omega), if_neg (by omega)]
    have r1 := gy_so1.mp c1
    cases hd : due with
    | false =>
      refine ⟨fun _ => ⟨Or.inl rfl, h0 (fun l => ?_)⟩, fun z => absurd (nd hd) z⟩
      rw [one, hd]
      by_cases c : q - p = 1
      · rw [if_pos c]; exact gy_run_nd (by decide)
      · rw [if_neg c]; exact gy_run_nd (by decide)
    | true =>
      have es : nI q - nI p = nI (q - p) := pk_sub (by omega)
      refine ⟨fun z => absurd z (yd hd), fun _ => ⟨fun (c : ¬ nI q - nI p = nI 1) => ⟨Or.inl rfl, h0 (fun l => ?_)⟩, fun (c : nI q - nI p = nI 1) => ?_⟩⟩
      · rw [es, nI_eq (by omega) (by omega)] at c
        rw [one, if_neg c, hd]
        exact gy_run_dbad (Or.inl rfl)
      · rw [es, nI_eq (by omega) (by omega)] at c
        refine ⟨p, ⟨rfl, by omega⟩, hC _ _ _ _ _ (c1_takesName (d := d) (v := T p) (e1.trans (if_pos (by omega))) (by omega) hkey h (by omega) i2 i3 (fun nm => ⟨fun _ => ⟨Or.inl rfl, h0 (fun l => ?_)⟩, fun z => absurd rfl z⟩) (fun nm J hJ => ⟨fun (z : nI 1 = 0) => absurd z (by decide), fun _ => ⟨Or.inr rfl, h1 J _ _ _ _ _ _ _ hJ ?_ (fun l => ?_)⟩⟩))⟩
        · rw [one, if_pos c, hd]
          exact gy_run_dbad (Or.inr (Or.inl ⟨rfl, nm⟩))
        · have := gy_eb_n3 S ((1, T p) :: o) bg i2
          have eo : ((1, T p) :: o).length = o.length + 1 := rfl
          exact ⟨by omega, this.1, by omega, i4⟩
        · rw [one, if_pos c, hd]
          exact gy_run_nam nm
  · rw [sq 2 (by decide)] at c2
    have one : ∀ l, gy_one T p q l = if 4 < q - p then [(0, 0, p)] else (2, gy_val T p (q - p), p) :: l := fun l => by
      unfold gy_one; rw [if_neg (by omega), if_pos c2]
    cases hd : due with
    | false =>
      refine ⟨fun _ => ⟨Or.inl rfl, h0 (fun l => ?_)⟩, fun z => absurd (nd hd) z⟩
      rw [one, hd]
      by_cases c : 4 < q - p
      · rw [if_pos c]; exact gy_run_nd (by decide)
      · rw [if_neg c]; exact gy_run_nd (by decide)
    | true =>
      refine ⟨fun z => absurd z (yd hd), fun _ => ?_⟩
      refine hC _ _ _ _ _ (c1_takesNumber (d := d + 1) rfl rfl hT gt le (hdig c2) h (by omega) i2 i3 (fun c => ⟨fun _ => ⟨Or.inl rfl, h0 (fun l => ?_)⟩, fun z => absurd rfl z⟩) (fun c J hJ => ⟨fun (z : nI 1 = 0) => absurd z (by decide), fun _ => ⟨Or.inr rfl, h1 J _ _ _ _ _ _ _ hJ ?_ (fun l => ?_)⟩⟩))
      · rw [one, if_pos c, hd]
        exact gy_run_dbad (Or.inl rfl)
      · have := gy_eb_n3 S ((0, gy_val T p (q - p)) :: o) bg i2
        have eo : ((0, gy_val T p (q - p)) :: o).length = o.length + 1 := rfl
        exact ⟨by omega, this.1, by omega, i4⟩
      · rw [one, if_neg (by omega), hd]
        exact gy_run_num
  · rw [sq 1 (by decide)] at c1
    rw [sq 2 (by decide)] at c2
    have s3 : gy_so (T p) = 3 := by omega
    have one : ∀ l, gy_one T p q l = (3, T p, p) :: l := fun l => if_pos s3
    cases hd : due with
    | true =>
      subst hd
      refine ⟨fun z => absurd z (yd rfl), fun _ => ⟨p, ⟨rfl, by omega⟩, hC _ _ _ _ _ (c1_opens (d := d + 3) e1 l1 h (by omega) i4 i3 (fun a b J hJ => ⟨Or.inr rfl, h1 J _ _ _ _ _ _ _ hJ ?_ (fun l => ?_)⟩) (fun a b J hJ => ⟨Or.inr rfl, h1 J _ _ _ _ _ _ _ hJ ?_ (fun l => ?_)⟩) (fun a b => ⟨Or.inl rfl, h0 (fun l => ?_)⟩))⟩⟩
      · have e3 : gy_n3 (33 :: S) = 1 + gy_n3 S := rfl
        have eS : (33 :: S).length = S.length + 1 := rfl
        exact ⟨by omega, by omega, by omega, i4⟩
      · rw [one, a]; exact gy_run_bang b
      · have e3 : gy_n3 (40 :: S) = 0 + gy_n3 S := rfl
        have eS : (40 :: S).length = S.length + 1 := rfl
        exact ⟨by omega, by omega, i3, by omega⟩
      · rw [one, a]; exact gy_run_open b
      · rw [one]; exact gy_run_dbad (Or.inr (Or.inr ⟨rfl, a, b⟩))
    | false =>
      subst hd
      refine ⟨fun _ => ⟨p, ⟨rfl, by omega⟩, fun (c : ¬ I 50 p = nI 41) => ?_, fun (c : I 50 p = nI 41) => ?_⟩, fun z => absurd (nd rfl) z⟩
      · have c41 : T p ≠ 41 := fun z => c (e1.trans ((gy_sb_eq (T p) l1 41 (by decide)).mpr z))
        refine ⟨p, ⟨rfl, by omega⟩, hC _ _ _ _ _ (c1_joins (d := d + 2) e1 l1 h (by omega) i4 (fun a => ⟨Or.inl rfl, h0 (fun l => ?_)⟩) (fun a J hJ => ⟨Or.inr rfl, h1 J _ _ _ _ _ _ _ hJ ?_ (fun l => ?_)⟩))⟩
        · rw [one]
          exact gy_run_bad (fun _ => a.elim (fun z => Or.inl (by omega)) Or.inr) (fun z => c41 z.2.1)
        · have pn := gy_pop_n3 (gy_tn (T p)) S o
          have h33 : T p ≠ 33 := fun z => a (Or.inl (by rw [z]; decide))
          have e3 : gy_n3 (T p :: (gy_pop (gy_tn (T p)) S o).1) = (if T p = 33 then 1 else 0) + gy_n3 (gy_pop (gy_tn (T p)) S o).1 := rfl
          rw [if_neg h33] at e3
          have eS : (T p :: (gy_pop (gy_tn (T p)) S o).1).length = (gy_pop (gy_tn (T p)) S o).1.length + 1 := rfl
          exact ⟨by omega, by omega, i3, i4⟩
        · rw [one]
          show (if (3 : Nat) = 0 then _ else if false = true then _ else if (3 : Nat) ≠ 3 then _ else if _ then _ else if _ then _ else _) = _
          rw [if_neg (by decide), if_neg (by decide), if_neg (by decide), if_neg c41, if_neg a]
      · have c41 : T p = 41 := (gy_sb_eq (T p) l1 41 (by decide)).mp (e1.symm.trans c)
        refine hC _ _ _ _ _ (c1_closes (d := d + 2) h (by omega) i2 i3 i4 (fun a => ⟨Or.inl rfl, h0 (fun l => ?_)⟩) (fun a J hJ => ⟨Or.inr rfl, h1 J _ _ _ _ _ _ _ hJ ?_ (fun l => ?_)⟩))
        · rw [one, c41]
          exact gy_run_bad (fun _ => Or.inl (by decide)) (fun z => by omega)
        · have pn := gy_pop_n3 0 S o
          have tl : gy_n3 (gy_pop 0 S o).1.tail ≤ gy_n3 (gy_pop 0 S o).1 ∧ (gy_pop 0 S o).1.tail.length ≤ (gy_pop 0 S o).1.length := by
            cases (gy_pop 0 S o).1 with
            | nil => exact ⟨Nat.le_refl _, Nat.le_refl _⟩
            | cons a S' => exact ⟨Nat.le_add_left _ _, Nat.le_succ _⟩
          have en := gy_eb_n3 (gy_pop 0 S o).1.tail (gy_pop 0 S o).2 bg (by omega)
          exact ⟨by omega, en.1, by omega, by omega⟩
        · rw [one, c41]
          show (if br = 0 then Sum.inl p else gy_run n key l (gy_eb (gy_pop 0 S o).1.tail (gy_pop 0 S o).2 bg).1 (gy_eb (gy_pop 0 S o).1.tail (gy_pop 0 S o).2 bg).2.1 w (br - 1) (gy_eb (gy_pop 0 S o).1.tail (gy_pop 0 S o).2 bg).2.2 false cmp) = _
          rw [if_neg a]
end
