/-! ===== the reference: a piece; the whole descent ===== -/
def gy_Pt (T : Nat → Nat) (n a : Nat) (key : Int32) (I0 : sx_I) (rw : Nat → Nat → Option Nat) (m : Nat) (ln : Nat → Nat) (dd N : Nat) : Prop :=
  ∀ (K : sx_K) (I : sx_I) (ts : List (Nat × Nat × Nat)) (S : List Nat) (o : List (Nat × Nat)) (w br bg : Nat) (cmp : Nat → Int32), gy_st T n a I0 ts o w br bg I → br ≤ 8 → bg ≤ 8 → 6 * (8 - br) + (8 - bg) ≤ N → o.length + S.length + ts.length ≤ 96 → gy_ok key o →
    (∀ J b, gy_fr a I0 J → J 78 15 = nI b → gy_run n key ts S o w br bg true cmp = .inl b → K (some (.int (nI 0))) J (sx_run rw m ln)) →
    (∀ J ts2 o2 w2 cmp2, gy_run n key ts S o w br bg true cmp = gy_run n key ts2 (gy_eb S o2 bg).1 (gy_eb S o2 bg).2.1 w2 br (gy_eb S o2 bg).2.2 false cmp2 → (∀ k, k ≤ br → cmp2 k = cmp k) → gy_st T n a I0 ts2 o2 w2 br bg J → o2.length + S.length + ts2.length ≤ 96 → gy_ok key o2 → gy_hg o2 = gy_hg o + 1 → ts2.length ≤ ts.length → K (some (.int (nI 1))) J (sx_run rw m ln)) →
    sx_C 185 dd [.ref 78, .int key] I (sx_run rw m ln) K
section
variable {d m : Nat} {I I0 : sx_I} {rw : Nat → Nat → Option Nat} {ln : Nat → Nat} {K : sx_K} {T : Nat → Nat} {n a w br bg : Nat} {ts : List (Nat × Nat × Nat)} {o : List (Nat × Nat)} {key : Int32} {S : List Nat} {cmp : Nat → Int32}
theorem gy_Pt.lv {e N : Nat} (h : gy_Pt T n a key I0 rw m ln e N) : gy_Lv T n a key I0 rw m ln 6 185 e N := by
  intro K I ts S o w br bg cmp hS hst _ hbr hbg hN hcnt hok hF hT
  refine h K I ts S o w br bg cmp hst hbr hbg hN hcnt hok hF (fun J ts2 o2 w2 cmp2 q1 q2 q3 q4 q5 q6 q7 => ?_)
  rw [gy_eb_low hS] at q1
  refine hT J ts2 [] o2 o2 w2 cmp2 ⟨q1, rfl, fun c hc => absurd hc (List.not_mem_nil), ?_, fun k hk => q2 k (by omega), q3, q4, q5, q6, q7⟩
  cases ts2 with
  | nil => trivial
  | cons t rest =>
    obtain ⟨s, v, p⟩ := t
    intro _
    refine Or.inl ?_
    unfold gy_tn; split <;> (try split) <;> (try split) <;> (try split) <;> (try split) <;> omega
theorem gy_st.f20 (h : gy_st T n a I0 ts o w br bg I) {b : Nat} {x : Int32} (hx : x = nI b) : gy_st T n a I0 ts o w b bg (sx_up I 78 (upd (I 78) 20 x)) := by
  subst hx
  obtain ⟨hf, ⟨b1, e, h15, h16, hb, he, hd⟩, h20, h21, h22, h24, ho⟩ := h
  refine ⟨⟨fun q x y => by rw [sx_up_ne x]; exact hf.1 q x y, fun k hk => by rw [sx_up_same, pk_un (by omega)]; exact hf.2.1 k hk, fun q hq => by rw [sx_up_ne (by decide)]; exact hf.2.2 q hq⟩, ⟨b1, e, ?_, ?_, hb, he, ?_⟩, ?_, ?_, ?_, ?_, ?_⟩
  · rw [sx_up_same, pk_un (by decide)]; exact h15
  · rw [sx_up_same, pk_un (by decide)]; exact h16
  · rw [sx_up_same, pk_un (by decide), pk_un (by decide), pk_un (by decide)]; exact hd
  · rw [sx_up_same, pk_us]
  · rw [sx_up_same, pk_un (by decide)]; exact h21
  · rw [sx_up_same, pk_un (by decide)]; exact h22
  · rw [sx_up_same, pk_un (by decide)]; exact h24
  · rw [sx_up_ne (by decide)]; exact ho
theorem gy_st.f21 (h : gy_st T n a I0 ts o w br bg I) {b : Nat} {x : Int32} (hx : x = nI b) : gy_st T n a I0 ts o w br b (sx_up I 78 (upd (I 78) 21 x)) := by
  subst hx
  obtain ⟨hf, ⟨b1, e, h15, h16, hb, he, hd⟩, h20, h21, h22, h24, ho⟩ := h
  refine ⟨⟨fun q x y => by rw [sx_up_ne x]; exact hf.1 q x y, fun k hk => by rw [sx_up_same, pk_un (by omega)]; exact hf.2.1 k hk, fun q hq => by rw [sx_up_ne (by decide)]; exact hf.2.2 q hq⟩, ⟨b1, e, ?_, ?_, hb, he, ?_⟩, ?_, ?_, ?_, ?_, ?_⟩
  · rw [sx_up_same, pk_un (by decide)]; exact h15
  · rw [sx_up_same, pk_un (by decide)]; exact h16
  · rw [sx_up_same, pk_un (by decide), pk_un (by decide), pk_un (by decide)]; exact hd
  · rw [sx_up_same, pk_un (by decide)]; exact h20
  · rw [sx_up_same, pk_us]
  · rw [sx_up_same, pk_un (by decide)]; exact h22
  · rw [sx_up_same, pk_un (by decide)]; exact h24
  · rw [sx_up_ne (by decide)]; exact ho
theorem gy_st.f24 (h : gy_st T n a I0 ts o w br bg I) {b : Nat} {x : Int32} (hx : x = nI b) : gy_st T n a I0 ts o b br bg (sx_up I 78 (upd (I 78) 24 x)) := by
  subst hx
  obtain ⟨hf, ⟨b1, e, h15, h16, hb, he, hd⟩, h20, h21, h22, h24, ho⟩ := h
  refine ⟨⟨fun q x y => by rw [sx_up_ne x]; exact hf.1 q x y, fun k hk => by rw [sx_up_same, pk_un (by omega)]; exact hf.2.1 k hk, fun q hq => by rw [sx_up_ne (by decide)]; exact hf.2.2 q hq⟩, ⟨b1, e, ?_, ?_, hb, he, ?_⟩, ?_, ?_, ?_, ?_, ?_⟩
  · rw [sx_up_same, pk_un (by decide)]; exact h15
  · rw [sx_up_same, pk_un (by decide)]; exact h16
  · rw [sx_up_same, pk_un (by decide), pk_un (by decide), pk_un (by decide)]; exact hd
  · rw [sx_up_same, pk_un (by decide)]; exact h20
  · rw [sx_up_same, pk_un (by decide)]; exact h21
  · rw [sx_up_same, pk_un (by decide)]; exact h22
  · rw [sx_up_same, pk_us]
  · rw [sx_up_ne (by decide)]; exact ho
theorem gy_run_dbad {s v p : Nat} (hs : s = 0 ∨ (s = 1 ∧ ¬ gy_nm key v = true) ∨ (s = 3 ∧ ¬ (v = 33 ∧ bg < 8) ∧ ¬ (v = 40 ∧ br < 8))) : gy_run n key ((s, v, p) :: ts) S o w br bg true cmp = .inl p := by
  show (if _ then _ else if true = true then (if _ then _ else if _ then (if _ then _ else _) else if _ then _ else if _ then _ else _) else _) = _
  rcases hs with h | ⟨h, h2⟩ | ⟨h, h2, h3⟩
  · rw [if_pos h]
  · rw [if_neg (by omega), if_pos rfl, if_neg (by omega), if_pos h, if_neg h2]
  · rw [if_neg (by omega), if_pos rfl, if_neg (by omega), if_neg (by omega), if_neg h2, if_neg h3]
theorem gy_run_num {v p : Nat} : gy_run n key ((2, v, p) :: ts) S o w br bg true cmp = gy_run n key ts (gy_eb S ((0, v) :: o) bg).1 (gy_eb S ((0, v) :: o) bg).2.1 (w + 1) br (gy_eb S ((0, v) :: o) bg).2.2 false cmp := rfl
theorem gy_run_nam {v p : Nat} (h : gy_nm key v = true) : gy_run n key ((1, v, p) :: ts) S o w br bg true cmp = gy_run n key ts (gy_eb S ((1, v) :: o) bg).1 (gy_eb S ((1, v) :: o) bg).2.1 (w + 1) br (gy_eb S ((1, v) :: o) bg).2.2 false cmp := by
  show (if gy_nm key v = true then _ else _) = _
  rw [if_pos h]
theorem gy_run_bang {p : Nat} (h : bg < 8) : gy_run n key ((3, 33, p) :: ts) S o w br bg true cmp = gy_run n key ts (33 :: S) o w br (bg + 1) true cmp := by
  show (if 33 = 33 ∧ bg < 8 then _ else _) = _
  rw [if_pos ⟨rfl, h⟩]
theorem gy_run_open {p : Nat} (h : br < 8) : gy_run n key ((3, 40, p) :: ts) S o w br bg true cmp = gy_run n key ts (40 :: S) o w (br + 1) bg true (upd cmp (br + 1) 0) := by
  show (if 40 = 33 ∧ bg < 8 then gy_run n key ts (33 :: S) o w br (bg + 1) true cmp else if 40 = 40 ∧ br < 8 then gy_run n key ts (40 :: S) o w (br + 1) bg true (upd cmp (br + 1) 0) else .inl p) = _
  rw [if_neg (by omega), if_pos ⟨rfl, h⟩]
theorem gy_run_close {p : Nat} {P : List Nat} {o1 : List (Nat × Nat)} (hP : ∀ c, c ∈ P → 1 ≤ gy_tn c) : gy_run n key ((3, 41, p) :: ts) (P ++ 40 :: S) o1 w (br + 1) bg false cmp = gy_run n key ts (gy_eb S (gy_ps P o1) bg).1 (gy_eb S (gy_ps P o1) bg).2.1 w br (gy_eb S (gy_ps P o1) bg).2.2 false cmp := by
  have e := gy_pop_app (l := 0) (S := 40 :: S) (Or.inl rfl) P o1 hP
  show (if br + 1 = 0 then .inl p else gy_run n key ts (gy_eb (gy_pop 0 (P ++ 40 :: S) o1).1.tail (gy_pop 0 (P ++ 40 :: S) o1).2 bg).1 (gy_eb (gy_pop 0 (P ++ 40 :: S) o1).1.tail (gy_pop 0 (P ++ 40 :: S) o1).2 bg).2.1 w (br + 1 - 1) (gy_eb (gy_pop 0 (P ++ 40 :: S) o1).1.tail (gy_pop 0 (P ++ 40 :: S) o1).2 bg).2.2 false cmp) = _
  rw [if_neg (by omega), e]
  rfl
theorem v_145 {N e : Nat} (he : e = d + N + 3) (hB : gy_base T n a I0) (hE : br < 8 → ∃ N', N' + 6 ≤ N ∧ 6 * (8 - (br + 1)) + (8 - bg) ≤ N' ∧ gy_Lv T n a key I0 rw m ln 1 180 e N')
    (hst : gy_st T n a I0 ts o w br bg I) (hbr : br ≤ 8) (hbg : bg ≤ 8) (hcnt : o.length + S.length + ts.length ≤ 96) (hok : gy_ok key o)
    (hbad : (∀ p rest, ts = (3, 40, p) :: rest → ¬ br < 8) → ∀ b, I 78 15 = nI b → b ≤ n → gy_run n key ts S o w br bg true cmp = .inl b)
    (hF : ∀ J b, gy_fr a I0 J → J 78 15 = nI b → gy_run n key ts S o w br bg true cmp = .inl b → K (some (.int (nI 0))) J (sx_run rw m ln))
    (hT : ∀ J ts2 o2 w2 cmp2, gy_run n key ts S o w br bg true cmp = gy_run n key ts2 (gy_eb S o2 bg).1 (gy_eb S o2 bg).2.1 w2 br (gy_eb S o2 bg).2.2 false cmp2 → (∀ k, k ≤ br → cmp2 k = cmp k) → gy_st T n a I0 ts2 o2 w2 br bg J → o2.length + S.length + ts2.length ≤ 96 → gy_ok key o2 → gy_hg o2 = gy_hg o + 1 → ts2.length ≤ ts.length → K (some (.int (nI 1))) J (sx_run rw m ln)) :
    sx_V 185 (e + 1) 0 0 K 145 [(0, .ref 78), (1, .int key)] [] I (sx_run rw m ln) := by
  have h20 := hst.2.2.1
  obtain ⟨b, e1, h15, -, hbn, -, -⟩ := hst.2.1
  have no : (∀ p rest, ts = (3, 40, p) :: rest → ¬ br < 8) → K (some (.int (nI 0))) I (sx_run rw m ln) := fun q => hF I b hst.1 h15 (hbad q b h15 hbn)
  refine sx_go m185 100 rfl (fun VV CC hV hC => ?_)
  subst he
  refine hC _ _ _ _ _ (c_sg (d := d + N + 2) (x := 40) hst.2.1 (by decide) rfl (fun p rest ets h19 => ?_) (fun q40 => ?_))
  · subst ets
    refine ⟨fun (q : nI 1 = 0) => absurd q (by decide), fun _ => ⟨fun (c8 : ¬ I 78 20 = nI 8) => ?_, fun (c8 : I 78 20 = nI 8) => ?_⟩⟩
    · rw [h20, nI_eq (by omega) (by omega)] at c8
      have b8 : br < 8 := by omega
      obtain ⟨N', hN', hN2, hL⟩ := hE b8
      have el : ((3, 40, p) :: rest).length = rest.length + 1 := rfl
      have eS : (40 :: S).length = S.length + 1 := rfl
      have hrun : gy_run n key ((3, 40, p) :: rest) S o w br bg true cmp = gy_run n key rest (40 :: S) o w (br + 1) bg true (upd cmp (br + 1) 0) := gy_run_open b8
      refine hC _ _ _ _ _ (c_next (d := d + N) hB (hst.f20 (b := br + 1) (by rw [h20, nI_add])) (by decide) (fun J1 h1 => ?_))
      refine hC _ _ _ _ _ (hL _ J1 rest (40 :: S) o w (br + 1) bg (upd cmp (br + 1) 0) (Or.inl rfl) h1 (fun _ => pk_us) (by omega) hbg hN2 (by omega) hok (fun J2 b2 f1 f2 f3 => ?_) (fun J2 ts2 P o1 o2 w2 cmp2 h2 => ?_))
      · exact ⟨fun _ => ⟨Or.inl rfl, hF J2 b2 f1 f2 (hrun.trans f3)⟩, fun q => absurd rfl q⟩
      · obtain ⟨k1, k2, k3, k4, k5, k6, k7, k8, k9, k10⟩ := h2
        refine ⟨fun (q : nI 1 = 0) => absurd q (by decide), fun _ => ?_⟩
        refine hC _ _ _ _ _ (c_sg (d := d + N + 2) (x := 41) k6.2.1 (by decide) rfl (fun p3 rest3 q _ => ?_) (fun q41 => ?_))
        · subst q
          have hcl := gy_run_close (n := n) (key := key) (ts := rest3) (S := S) (w := w2) (br := br) (bg := bg) (cmp := cmp2) (p := p3) (P := P) (o1 := o1) k3
          have el3 : ((3, 41, p3) :: rest3).length = rest3.length + 1 := rfl
          rw [← k2] at hcl
          refine ⟨fun _ => ?_, fun (q : nI 1 = 0) => absurd q (by decide)⟩
          refine hC _ _ _ _ _ (c_next (d := d + N) hB (k6.f20 (b := br) (by rw [k6.2.2.1, pk_sub (by omega)]; rfl)) (by decide) (fun J4 h4 => ?_))
          exact ⟨Or.inr rfl, hT J4 rest3 o2 w2 cmp2 (hrun.trans (k1.trans hcl)) (fun k hk => (k5 k (Or.inl (by omega))).trans (pk_un (by omega))) h4 (by omega) k8 k9 (by omega)⟩
        · obtain ⟨b2, e2, g15, -, hbn2, -, gd⟩ := k6.2.1
          refine ⟨fun q => absurd rfl q, fun _ => ⟨Or.inl rfl, hF J2 b2 k6.1 g15 (hrun.trans (k1.trans ?_))⟩⟩
          cases ts2 with
          | nil =>
            rw [gd.2]
            show (if false = true ∨ 0 < br + 1 then _ else _) = _
            rw [if_pos (Or.inr (by omega))]
          | cons t rest3 =>
            obtain ⟨s, v, p3⟩ := t
            rw [← gd.1]
            refine gy_run_bad k4 (fun z => ?_)
            refine q41 p3 rest3 ?_
            rw [z.1, z.2.1]
    · rw [h20, nI_eq (by omega) (by omega)] at c8
      exact ⟨Or.inl rfl, no (fun p rest _ => by omega)⟩
  · exact ⟨fun _ => ⟨Or.inl rfl, no (fun p rest q => absurd q (q40 p rest))⟩, fun q => absurd rfl q⟩
end
