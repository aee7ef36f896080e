/-! ===== the reference: a piece; the descent ends ===== -/
section
variable {d m : Nat} {I I0 : sx_I} {rw : Nat → Nat → Option Nat} {ln : Nat → Nat} {K : sx_K} {T : Nat → Nat} {n a w br bg : Nat} {ts : List (Nat × Nat × Nat)} {o : List (Nat × Nat)} {key : Int32} {S : List Nat} {cmp : Nat → Int32}
theorem gy_at_s {s v p : Nat} {rest : List (Nat × Nat × Nat)} (h : gy_at T n I ((s, v, p) :: rest)) : (s = 0 ∧ (I 78 17 = nI 4 ∨ (I 78 17 = nI 1 ∧ I 78 19 = 0))) ∨ (s = 1 ∧ I 78 17 = nI 1 ∧ I 78 19 = nI v ∧ 97 ≤ v ∧ v ≤ 122) ∨ (s = 2 ∧ I 78 17 = nI 2 ∧ I 78 18 = nI v ∧ v ≤ 9999) ∨ (s = 3 ∧ I 78 17 = nI 3 ∧ I 78 19 = nI v ∧ v < 256) := by
  obtain ⟨b, e, -, -, -, -, hp, hd⟩ := h
  rcases hd with q | ⟨-, -, q | q | q⟩
  · exact Or.inl q
  · exact Or.inr (Or.inl ⟨q.1, q.2.1, q.2.2.1, q.2.2.2.1, q.2.2.2.2.1⟩)
  · exact Or.inr (Or.inr (Or.inl ⟨q.1, q.2.1, q.2.2.1, q.2.2.2.1⟩))
  · exact Or.inr (Or.inr (Or.inr ⟨q.1, q.2.1, q.2.2.1, q.2.2.2.1⟩))
theorem gy_hbad (hat : gy_at T n I ts) (h2 : ∀ v p rest, ts ≠ (2, v, p) :: rest) (h1 : ∀ v p rest, ts = (1, v, p) :: rest → ¬ gy_nm key v = true) (h33 : ∀ p rest, ts = (3, 33, p) :: rest → ¬ bg < 8) (h40 : ∀ p rest, ts = (3, 40, p) :: rest → ¬ br < 8) (b : Nat) (hb : I 78 15 = nI b) (hbn : b ≤ n) (hn : n ≤ 96) : gy_run n key ts S o w br bg true cmp = .inl b := by
  have hs := hat
  obtain ⟨b2, e, g15, -, hb2, -, hd⟩ := hat
  have eb : b2 = b := (nI_eq (by omega) (by omega)).mp (g15.symm.trans hb)
  subst eb
  cases ts with
  | nil =>
    rw [hd.2]
    show (if true = true ∨ 0 < br then _ else _) = _
    rw [if_pos (Or.inl rfl)]
  | cons t rest =>
    obtain ⟨s, v, p⟩ := t
    rw [← hd.1]
    refine gy_run_dbad ?_
    rcases gy_at_s hs with q | q | q | q
    · exact Or.inl q.1
    · exact Or.inr (Or.inl ⟨q.1, h1 v p rest (by rw [q.1])⟩)
    · exact absurd (by rw [q.1]) (h2 v p rest)
    · exact Or.inr (Or.inr ⟨q.1, fun z => h33 p rest (by rw [q.1, z.1]) z.2, fun z => h40 p rest (by rw [q.1, z.1]) z.2⟩)
theorem v_84 {N e : Nat} (he : e = d + N + 3) (hB : gy_base T n a I0) (hE : br < 8 → ∃ N', N' + 6 ≤ N ∧ 6 * (8 - (br + 1)) + (8 - bg) ≤ N' ∧ gy_Lv T n a key I0 rw m ln 1 180 e N') (hP : bg < 8 → ∃ N', 6 * (8 - br) + (8 - (bg + 1)) ≤ N' ∧ gy_Pt T n a key I0 rw m ln e N')
    (hst : gy_st T n a I0 ts o w br bg I) (hbr : br ≤ 8) (hbg : bg ≤ 8) (hcnt : o.length + S.length + ts.length ≤ 96) (hok : gy_ok key o)
    (h2 : ∀ v p rest, ts ≠ (2, v, p) :: rest) (h1 : ∀ v p rest, ts = (1, v, p) :: rest → ¬ gy_nm key v = true)
    (hF : ∀ J b, gy_fr a I0 J → J 78 15 = nI b → gy_run n key ts S o w br bg true cmp = .inl b → K (some (.int (nI 0))) J (sx_run rw m ln))
    (hT : ∀ J ts2 o2 w2 cmp2, gy_run n key ts S o w br bg true cmp = gy_run n key ts2 (gy_eb S o2 bg).1 (gy_eb S o2 bg).2.1 w2 br (gy_eb S o2 bg).2.2 false cmp2 → (∀ k, k ≤ br → cmp2 k = cmp k) → gy_st T n a I0 ts2 o2 w2 br bg J → o2.length + S.length + ts2.length ≤ 96 → gy_ok key o2 → gy_hg o2 = gy_hg o + 1 → ts2.length ≤ ts.length → K (some (.int (nI 1))) J (sx_run rw m ln)) :
    sx_V 185 (e + 1) 0 0 K 84 [(0, .ref 78), (1, .int key)] [] I (sx_run rw m ln) := by
  have h21 := hst.2.2.2.1
  have hn : n ≤ 96 := hB.1.2.1
  have v145 : (∀ p rest, ts = (3, 33, p) :: rest → ¬ bg < 8) → sx_V 185 (e + 1) 0 0 K 145 [(0, .ref 78), (1, .int key)] [] I (sx_run rw m ln) := fun h33 =>
    v_145 he hB hE hst hbr hbg hcnt hok (fun h40 b hb hbn => gy_hbad hst.2.1 h2 h1 h33 h40 b hb hbn hn) hF hT
  subst he
  refine sx_go m185 100 rfl (fun VV CC hV hC => ?_)
  refine hC _ _ _ _ _ (c_sg (d := d + N + 2) (x := 33) hst.2.1 (by decide) rfl (fun p rest ets h19 => ?_) (fun q33 => ?_))
  · refine ⟨fun (q : nI 1 = 0) => absurd q (by decide), fun _ => ⟨fun (c8 : nI 8 ≤ I 78 21) => ?_, fun (c8 : ¬ nI 8 ≤ I 78 21) => ?_⟩⟩
    · rw [h21, nI_leI (by omega) (by omega)] at c8
      exact hV _ _ _ _ _ _ _ (v145 (fun p rest _ => by omega))
    · rw [h21, nI_leI (by omega) (by omega)] at c8
      subst ets
      obtain ⟨N', hN2, hL⟩ := hP (by omega)
      have el : ((3, 33, p) :: rest).length = rest.length + 1 := rfl
      have eS : (33 :: S).length = S.length + 1 := rfl
      have hrun : gy_run n key ((3, 33, p) :: rest) S o w br bg true cmp = gy_run n key rest (33 :: S) o w br (bg + 1) true cmp := gy_run_bang (by omega)
      refine hC _ _ _ _ _ (c_next (d := d + N) hB (hst.f21 (b := bg + 1) (by rw [h21, nI_add])) (by decide) (fun J1 h1 => ?_))
      refine hC _ _ _ _ _ (hL _ J1 rest (33 :: S) o w br (bg + 1) cmp h1 hbr (by omega) hN2 (by omega) hok (fun J2 b2 f1 f2 f3 => ?_) (fun J2 ts2 o2 w2 cmp2 k1 k2 k3 k4 k5 k6 k7 => ?_))
      · exact ⟨fun q => absurd rfl q, fun _ => ⟨Or.inl rfl, hF J2 b2 f1 f2 (hrun.trans f3)⟩⟩
      · have eeb : gy_eb (33 :: S) o2 (bg + 1) = gy_eb S ((2, 33) :: o2) bg := by
          show (if _ then gy_eb S ((2, 33) :: o2) (bg + 1 - 1) else _) = _
          rw [if_pos rfl]; rfl
        rw [eeb] at k1
        have eo : ((2, 33) :: o2).length = o2.length + 1 := rfl
        refine ⟨fun _ => ?_, fun (q : nI 1 = 0) => absurd q (by decide)⟩
        refine hC _ _ _ _ _ (c_stp (d := d + N + 2) (u := 2) (v := 33) hB (k3.f21 (b := bg) (by rw [k3.2.2.2.1, pk_sub (by omega)]; rfl)) (by omega) rfl rfl (fun J4 h4 _ _ => ?_))
        refine ⟨Or.inr rfl, hT J4 ts2 ((2, 33) :: o2) w2 cmp2 (hrun.trans k1) k2 h4 (by omega) ⟨k5, Or.inr (Or.inr (Or.inl ⟨rfl, rfl, by omega⟩))⟩ ?_ (by omega)⟩
        exact k6
  · exact ⟨fun _ => hV _ _ _ _ _ _ _ (v145 (fun p rest q => absurd q (q33 p rest))), fun q => absurd rfl q⟩
theorem c_part0 {N e : Nat} (he : e = d + N + 3) (hB : gy_base T n a I0) (hkey : key = 0 ∨ key = nI 1 ∨ key = nI 2) (hE : 6 ≤ N → gy_Lv T n a key I0 rw m ln 1 180 e (N - 6)) (hP : 1 ≤ N → gy_Pt T n a key I0 rw m ln e (N - 1)) : gy_Pt T n a key I0 rw m ln (e + 1) N := by
  intro K I ts S o w br bg cmp hst hbr hbg hN hcnt hok hF hT
  have v84 : (∀ v p rest, ts ≠ (2, v, p) :: rest) → (∀ v p rest, ts = (1, v, p) :: rest → ¬ gy_nm key v = true) → sx_V 185 (e + 1) 0 0 K 84 [(0, .ref 78), (1, .int key)] [] I (sx_run rw m ln) := fun h2 h1 =>
    v_84 he hB (fun q => ⟨N - 6, by omega, by omega, hE (by omega)⟩) (fun q => ⟨N - 1, by omega, hP (by omega)⟩) hst hbr hbg hcnt hok h2 h1 hF hT
  have hat := hst.2.1
  have h24 := hst.2.2.2.2.2.1
  subst he
  refine sx_enter (by decide +kernel) (Nat.le_of_ble_eq_true rfl) (sx_go m185 100 rfl (fun VV CC hV hC => ?_))
  have n2 : ¬ I 78 17 = nI 2 → ∀ v p rest, ts ≠ (2, v, p) :: rest := by
    intro c v p rest q
    subst q
    rcases gy_at_s hat with q | q | q | q
    · exact absurd q.1 (by decide)
    · exact absurd q.1 (by decide)
    · exact c q.2.1
    · exact absurd q.1 (by decide)
  have n1 : ∀ v p rest, ts = (1, v, p) :: rest → I 78 17 = nI 1 ∧ I 78 19 = nI v ∧ 97 ≤ v ∧ v ≤ 122 := by
    intro v p rest q
    subst q
    rcases gy_at_s hat with q | q | q | q
    · exact absurd q.1 (by decide)
    · exact q.2
    · exact absurd q.1 (by decide)
    · exact absurd q.1 (by decide)
  refine ⟨fun (c2 : ¬ I 78 17 = nI 2) => ⟨fun (c1 : ¬ I 78 17 = nI 1) => ?_, fun (c1 : I 78 17 = nI 1) => ⟨fun (c0 : I 78 19 = 0) => ?_, fun (c0 : ¬ I 78 19 = 0) => ?_⟩⟩, fun (c2 : I 78 17 = nI 2) => ?_⟩
  · exact hV _ _ _ _ _ _ _ (v84 (n2 c2) (fun v p rest q => absurd (n1 v p rest q).1 c1))
  · refine hV _ _ _ _ _ _ _ (v84 (n2 c2) (fun v p rest q => ?_))
    have := n1 v p rest q
    exact absurd ((nI_eq (b := 0) (by omega) (by omega)).mp (this.2.1.symm.trans c0)) (by omega)
  · obtain ⟨v, p, rest, ets⟩ : ∃ v p rest, ts = (1, v, p) :: rest := by
      cases ts with
      | nil =>
        obtain ⟨_, _, _, _, _, _, hd⟩ := hat
        exact absurd (hd.1.symm.trans c1) (by decide)
      | cons t rest =>
        obtain ⟨s, v, p⟩ := t
        rcases gy_at_s hat with q | q | q | q
        · rcases q.2 with z | z
          · exact absurd (z.symm.trans c1) (by decide)
          · exact absurd z.2 c0
        · exact ⟨v, p, rest, by rw [q.1]⟩
        · exact absurd (q.2.1.symm.trans c1) (by decide)
        · exact absurd (q.2.1.symm.trans c1) (by decide)
    obtain ⟨-, h19, hv1, hv2⟩ := n1 v p rest ets
    refine hC _ _ _ _ _ (c_isName (d := d + N + 2) (c := v) h19 (by omega) hkey ?_)
    by_cases nm : gy_nm key v = true
    · rw [if_pos nm]
      subst ets
      have el : ((1, v, p) :: rest).length = rest.length + 1 := rfl
      have eo : ((1, v) :: o).length = o.length + 1 := rfl
      refine ⟨fun (q : nI 1 = 0) => absurd q (by decide), fun _ => ?_⟩
      refine hC _ _ _ _ _ (c_stp (d := d + N + 2) (u := 1) (v := v) hB hst (by omega) rfl h19 (fun J4 h4 _ _ => ?_))
      refine hC _ _ _ _ _ (c_next (d := d + N) hB (h4.f24 (b := w + 1) (by rw [h4.2.2.2.2.2.1, nI_add])) (by decide) (fun J5 h5 => ?_))
      exact ⟨Or.inr rfl, hT J5 rest ((1, v) :: o) (w + 1) cmp (gy_run_nam nm) (fun _ _ => rfl) h5 (by omega) ⟨hok, Or.inr (Or.inl ⟨rfl, gy_nm_iff.mp nm⟩)⟩ rfl (by omega)⟩
    · rw [if_neg nm]
      refine ⟨fun _ => hV _ _ _ _ _ _ _ (v84 (n2 c2) (fun v2 p2 rest2 q => ?_)), fun q => absurd rfl q⟩
      rw [ets] at q
      injection q with q1 _; injection q1 with _ q1; injection q1 with q1 _
      rw [← q1]; exact nm
  · obtain ⟨v, p, rest, ets, h18, hv⟩ : ∃ v p rest, ts = (2, v, p) :: rest ∧ I 78 18 = nI v ∧ v ≤ 9999 := by
      cases ts with
      | nil =>
        obtain ⟨_, _, _, _, _, _, hd⟩ := hat
        exact absurd (hd.1.symm.trans c2) (by decide)
      | cons t rest =>
        obtain ⟨s, v, p⟩ := t
        rcases gy_at_s hat with q | q | q | q
        · rcases q.2 with z | z
          · exact absurd (z.symm.trans c2) (by decide)
          · exact absurd (z.1.symm.trans c2) (by decide)
        · exact absurd (q.2.1.symm.trans c2) (by decide)
        · exact ⟨v, p, rest, by rw [q.1], q.2.2.1, q.2.2.2⟩
        · exact absurd (q.2.1.symm.trans c2) (by decide)
    subst ets
    have el : ((2, v, p) :: rest).length = rest.length + 1 := rfl
    have eo : ((0, v) :: o).length = o.length + 1 := rfl
    refine hC _ _ _ _ _ (c_stp (d := d + N + 2) (u := 0) (v := v) hB hst (by omega) rfl h18 (fun J4 h4 _ _ => ?_))
    refine hC _ _ _ _ _ (c_next (d := d + N) hB (h4.f24 (b := w + 1) (by rw [h4.2.2.2.2.2.1, nI_add])) (by decide) (fun J5 h5 => ?_))
    exact ⟨Or.inr rfl, hT J5 rest ((0, v) :: o) (w + 1) cmp gy_run_num (fun _ _ => rfl) h5 (by omega) ⟨hok, Or.inl ⟨rfl, hv⟩⟩ rfl (by omega)⟩
theorem gy_all (hB : gy_base T n a I0) (hkey : key = 0 ∨ key = nI 1 ∨ key = nI 2) (d : Nat) : ∀ (N M : Nat), M ≤ N → gy_Pt T n a key I0 rw m ln (d + M + 4) M
  | 0, M, h => by
    have : M = 0 := by omega
    subst this
    exact c_part0 (d := d) rfl hB hkey (fun q => absurd q (by omega)) (fun q => absurd q (by omega))
  | N + 1, M, h => by
    refine c_part0 (d := d) (N := M) rfl hB hkey (fun q => ?_) (fun q => ?_)
    · have h6 := gy_all hB hkey d N (M - 6) (by omega)
      have h1 := c_either (d := d) rfl hB (c_both (d := d) rfl hB (c_test (d := d) rfl hB (c_sum (d := d) rfl hB (c_term (d := d) rfl hB h6.lv))))
      have e : d + (M - 6) + 4 + 1 + 1 + 1 + 1 + 1 = d + M + 3 := by omega
      rw [e] at h1
      exact h1
    · have h6 := gy_all hB hkey d N (M - 1) (by omega)
      have e : d + (M - 1) + 4 = d + M + 3 := by omega
      rw [e] at h6
      exact h6
theorem c_eitherAll (hB : gy_base T n a I0) (hkey : key = 0 ∨ key = nI 1 ∨ key = nI 2) (d : Nat) : gy_Lv T n a key I0 rw m ln 1 180 (d + 65) 56 := by
  have h := gy_all (rw := rw) (m := m) (ln := ln) hB hkey d 56 56 (Nat.le_refl 56)
  exact c_either (d := d) rfl hB (c_both (d := d) rfl hB (c_test (d := d) rfl hB (c_sum (d := d) rfl hB (c_term (d := d) rfl hB h.lv))))
end
