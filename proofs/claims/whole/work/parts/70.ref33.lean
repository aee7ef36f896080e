/-! ===== the reference: where a text is read; its state ===== -/
def gy_hd (T : Nat → Nat) (n b e : Nat) (t v c : Int32) : List (Nat × Nat × Nat) → Prop
  | [] => t = 0 ∧ b = n
  | (s, x, p) :: rest => p = b ∧ ((s = 0 ∧ (t = nI 4 ∨ (t = nI 1 ∧ c = 0))) ∨ (0 < e ∧ rest = gy_tk T n e ∧ ((s = 1 ∧ t = nI 1 ∧ c = nI x ∧ 97 ≤ x ∧ x ≤ 122 ∧ gy_so (T (e - 1)) = 1) ∨ (s = 2 ∧ t = nI 2 ∧ v = nI x ∧ x ≤ 9999 ∧ gy_so (T (e - 1)) = 2) ∨ (s = 3 ∧ t = nI 3 ∧ c = nI x ∧ x < 256 ∧ gy_so (T (e - 1)) = 3))))
def gy_at (T : Nat → Nat) (n : Nat) (I : sx_I) (ts : List (Nat × Nat × Nat)) : Prop :=
  ∃ b e, I 78 15 = nI b ∧ I 78 16 = nI e ∧ b ≤ n ∧ e ≤ n ∧ gy_hd T n b e (I 78 17) (I 78 18) (I 78 19) ts
theorem gy_raw_at {T : Nat → Nat} {n e : Nat} {J : sx_I} (he : e ≤ n) (hT : ∀ i, i < n → T i < 256) (h : gy_raw T n e (gy_bl T (n - e) e) (gy_to T n (gy_bl T (n - e) e)) J) : gy_at T n J (gy_tk T n e) := by
  have ge := gy_bl_ge T (n - e) e
  have le := gy_bl_le T (n - e) e
  have no := gy_bl_no T (n - e) e
  rw [gy_tk_eq]
  generalize gy_bl T (n - e) e = p at h ge le no ⊢
  have gt := gy_to_gt T n p
  have la := gy_to_last T n p
  have hpn : p ≤ n := by omega
  by_cases c : n ≤ p
  · rw [if_pos c]
    exact ⟨p, p, h.1, (h.2.1 c).1, hpn, hpn, (h.2.1 c).2, Nat.le_antisymm hpn c⟩
  · rw [if_neg c]
    have lt : p < n := Nat.lt_of_not_le c
    have tle := gy_to_le T n p lt
    have s4 := gy_so4 (T p)
    have no2 : T p ≠ 32 := no (by omega)
    have s0 : gy_so (T p) ≠ 0 := fun q => no2 (gy_so0.mp q)
    have t0 : 0 < gy_to T n p := by omega
    refine ⟨p, gy_to T n p, h.1, (h.2.2 lt).1, hpn, tle, ?_⟩
    by_cases cw : (gy_so (T p) ≠ 3 ∧ p = e) ∧ 0 < e ∧ gy_so (T (e - 1)) ≠ 3
    · rw [if_pos cw]
      refine ⟨rfl, Or.inl ⟨rfl, Or.inl ?_⟩⟩
      have hs : gy_so (T p) = 1 ∨ gy_so (T p) = 2 := by
        have := cw.1.1
        revert this s0 s4
        generalize gy_so (T p) = z
        intro q1 q2 q3
        omega
      rcases hs with s | s
      · exact ((h.2.2 lt).2.2.1 s).1.1 ⟨cw.1.2, cw.2⟩
      · exact ((h.2.2 lt).2.2.2 s).1.1 (Or.inl ⟨cw.1.2, cw.2⟩)
    · rw [if_neg cw]
      unfold gy_one
      by_cases s3 : gy_so (T p) = 3
      · rw [if_pos s3]
        exact ⟨rfl, Or.inr ⟨t0, rfl, Or.inr (Or.inr ⟨rfl, ((h.2.2 lt).2.1 s3).1, ((h.2.2 lt).2.1 s3).2, hT p lt, la.trans s3⟩)⟩⟩
      · rw [if_neg s3]
        have nw : ¬ (p = e ∧ gy_w T e) := fun q => cw ⟨⟨s3, q.1⟩, q.2⟩
        by_cases s2 : gy_so (T p) = 2
        · rw [if_pos s2]
          by_cases c4 : 4 < gy_to T n p - p
          · rw [if_pos c4]
            exact ⟨rfl, Or.inl ⟨rfl, Or.inl (((h.2.2 lt).2.2.2 s2).1.1 (Or.inr c4))⟩⟩
          · rw [if_neg c4]
            have hv : gy_val T p (gy_to T n p - p) ≤ 9999 := by
              have hb : gy_val T p (gy_to T n p - p) < 10 ^ (gy_to T n p - p) := gy_val_lt T p _ (fun i hi => by
                have h2 : gy_so (T (p + i)) = 2 := by
                  by_cases i0 : i = 0
                  · rw [i0]; exact s2
                  · refine gy_rn_so T 2 (n - (p + 1)) (p + 1) (p + i) (by omega) ?_
                    have : gy_to T n p = gy_rn T 2 (n - (p + 1)) (p + 1) := by
                      unfold gy_to; rw [if_neg s3, s2]
                    rw [← this]; omega
                exact (gy_so2.mp h2).2)
              have h3 : 10 ^ (gy_to T n p - p) ≤ 10 ^ 4 := Nat.pow_le_pow_right (by decide) (Nat.le_of_not_lt c4)
              exact Nat.le_of_lt_succ (Nat.lt_of_lt_of_le hb h3)
            exact ⟨rfl, Or.inr ⟨t0, rfl, Or.inr (Or.inl ⟨rfl, ((h.2.2 lt).2.2.2 s2).1.2 (fun q => q.elim nw c4), ((h.2.2 lt).2.2.2 s2).2 (Nat.le_of_not_lt c4), hv, la.trans s2⟩)⟩⟩
        · rw [if_neg s2]
          have s1 : gy_so (T p) = 1 := by
            revert s0 s4 s2 s3
            generalize gy_so (T p) = z
            intro q1 q2 q3 q4
            omega
          by_cases c1 : gy_to T n p - p = 1
          · rw [if_pos c1]
            have r := gy_so1.mp s1
            exact ⟨rfl, Or.inr ⟨t0, rfl, Or.inl ⟨rfl, ((h.2.2 lt).2.2.1 s1).1.2 nw, ((h.2.2 lt).2.2.1 s1).2.trans (if_pos c1), r.1, r.2, la.trans s1⟩⟩⟩
          · rw [if_neg c1]
            exact ⟨rfl, Or.inl ⟨rfl, Or.inr ⟨((h.2.2 lt).2.2.1 s1).1.2 nw, ((h.2.2 lt).2.2.1 s1).2.trans (if_neg c1)⟩⟩⟩
def gy_fr (a : Nat) (I J : sx_I) : Prop := (∀ q, q ≠ 78 → q ≠ 79 → J q = I q) ∧ (∀ k, (k < 15 ∨ k = 23 ∨ 24 < k) → J 78 k = I 78 k) ∧ ∀ q, q < a → J 79 q = I 79 q
theorem gy_fr.rf (a : Nat) (I : sx_I) : gy_fr a I I := ⟨fun _ _ _ => rfl, fun _ _ => rfl, fun _ _ => rfl⟩
theorem gy_fr.tr {a : Nat} {I J L : sx_I} (h : gy_fr a I J) (h2 : gy_fr a J L) : gy_fr a I L :=
  ⟨fun q x y => (h2.1 q x y).trans (h.1 q x y), fun k x => (h2.2.1 k x).trans (h.2.1 k x), fun q x => (h2.2.2 q x).trans (h.2.2 q x)⟩
theorem gy_nt.fr {a : Nat} {I J : sx_I} (h : gy_nt I J) : gy_fr a I J :=
  ⟨fun q x _ => h.ne x, fun k hk => h.2 k (by omega), fun q _ => by rw [h.ne (by decide)]⟩
theorem gy_fr.bt {a n : Nat} {T : Nat → Nat} {I J : sx_I} (h : gy_fr a I J) (hT : gy_bt T n I) : gy_bt T n J := ⟨(h.2.1 14 (by omega)).trans hT.1, hT.2.1, fun i hi => by rw [h.1 91 (by decide) (by decide)]; exact hT.2.2 i hi⟩
/-- the base: the tape and where the steps are laid -/
def gy_base (T : Nat → Nat) (n a : Nat) (I0 : sx_I) : Prop := gy_bt T n I0 ∧ I0 78 23 = nI a ∧ a ≤ 2862
def gy_st (T : Nat → Nat) (n a : Nat) (I0 : sx_I) (ts : List (Nat × Nat × Nat)) (o : List (Nat × Nat)) (w br bg : Nat) (I : sx_I) : Prop :=
  gy_fr a I0 I ∧ gy_at T n I ts ∧ I 78 20 = nI br ∧ I 78 21 = nI bg ∧ I 78 22 = nI o.length ∧ I 78 24 = nI w ∧ gy_out (fun i => I 79 (a + i)) o
section
variable {d m : Nat} {I I0 : sx_I} {rw : Nat → Nat → Option Nat} {ln : Nat → Nat} {K : sx_K} {T : Nat → Nat} {n a w br bg : Nat} {ts : List (Nat × Nat × Nat)} {o : List (Nat × Nat)}
theorem c_next {s x p : Nat} (hB : gy_base T n a I0) (h : gy_st T n a I0 ((s, x, p) :: ts) o w br bg I) (hs : s ≠ 0) (hk : ∀ J, gy_st T n a I0 ts o w br bg J → K none J (sx_run rw m ln)) : sx_C 174 (d + 3) [.ref 78] I (sx_run rw m ln) K := by
  obtain ⟨hf, ⟨b, e, h15, h16, hb, he, hp, hd⟩, h20, h21, h22, h24, ho⟩ := h
  have hT := hf.bt hB.1
  have hd2 : 0 < e ∧ ts = gy_tk T n e ∧ ((0 < e ∧ (I 78 17 = nI 1 ∨ I 78 17 = nI 2)) ↔ gy_w T e) := by
    rcases hd with q | ⟨q1, q2, q⟩
    · exact absurd q.1 hs
    · refine ⟨q1, q2, ?_⟩
      rcases q with ⟨-, q, -, -, -, z⟩ | ⟨-, q, -, -, z⟩ | ⟨-, q, -, -, z⟩
      · rw [q]; exact ⟨fun _ => ⟨q1, by omega⟩, fun _ => ⟨q1, Or.inl rfl⟩⟩
      · rw [q]; exact ⟨fun _ => ⟨q1, by omega⟩, fun _ => ⟨q1, Or.inr rfl⟩⟩
      · rw [q]; exact ⟨fun y => y.2.elim (fun y => absurd y (by decide)) (fun y => absurd y (by decide)), fun y => absurd z y.2⟩
  obtain ⟨e0, ets, hw⟩ := hd2
  refine c_nextToken hT he h16 hw (fun J hJ hr => hk J ⟨hf.tr hJ.fr, ?_, ?_, ?_, ?_, ?_, ?_⟩)
  · rw [ets]; exact gy_raw_at he (fun i hi => (hT.2.2 i hi).2) hr
  · rw [hJ.2 20 (by omega)]; exact h20
  · rw [hJ.2 21 (by omega)]; exact h21
  · rw [hJ.2 22 (by omega)]; exact h22
  · rw [hJ.2 24 (by omega)]; exact h24
  · rw [hJ.ne (by decide)]; exact ho
theorem c_stp {x y : Int32} {u v : Nat} (hB : gy_base T n a I0) (h : gy_st T n a I0 ts o w br bg I) (hl : o.length < 96) (hx : x = nI u) (hy : y = nI v) (hk : ∀ J, gy_st T n a I0 ts ((u, v) :: o) w br bg J → J 78 18 = I 78 18 → J 78 19 = I 78 19 → K none J (sx_run rw m ln)) : sx_C 179 (d + 1) [.ref 78, .int x, .int y] I (sx_run rw m ln) K := by
  subst hx; subst hy
  obtain ⟨hf, ⟨b, e, h15, h16, hb, he, hd⟩, h20, h21, h22, h24, ho⟩ := h
  have h23 : I 78 23 = nI a := (hf.2.1 23 (by omega)).trans hB.2.1
  have ha := hB.2.2
  refine c_step h23 h22 (by omega) (hk _ ⟨⟨fun q x y => ?_, fun k hk => ?_, fun q hq => ?_⟩, ⟨b, e, ?_, ?_, hb, he, ?_⟩, ?_, ?_, ?_, ?_, ?_⟩ ?_ ?_)
  · rw [sx_up_ne x, sx_up_ne y]; exact hf.1 q x y
  · rw [sx_up_same, pk_un (by omega)]; exact hf.2.1 k hk
  · rw [sx_up_ne (by decide), sx_up_same, pk_un (by omega), pk_un (by omega)]; exact hf.2.2 q hq
  · rw [sx_up_same, pk_un (by decide)]; exact h15
  · rw [sx_up_same, pk_un (by decide)]; exact h16
  · rw [sx_up_same, pk_un (by decide), pk_un (by decide), pk_un (by decide)]; exact hd
  · rw [sx_up_same, pk_un (by decide)]; exact h20
  · rw [sx_up_same, pk_un (by decide)]; exact h21
  · rw [sx_up_same, pk_us]; rfl
  · rw [sx_up_same, pk_un (by decide)]; exact h24
  · rw [sx_up_ne (by decide), sx_up_same]
    refine ⟨?_, ?_, gy_out_cg o (fun i hi => ?_) ho⟩
    · show upd _ _ _ (a + 2 * o.length) = _
      rw [pk_un (by omega), pk_us]
    · show upd _ _ _ (a + (2 * o.length + 1)) = _
      rw [show a + (2 * o.length + 1) = a + 2 * o.length + 1 by omega, pk_us]
    · show upd _ _ _ (a + i) = _
      rw [pk_un (by omega), pk_un (by omega)]
  · rw [sx_up_same, pk_un (by decide)]
  · rw [sx_up_same, pk_un (by decide)]
theorem c_sg {x : Nat} {y : Int32} (h : gy_at T n I ts) (hx : x < 256) (hy : y = nI x) (h1 : ∀ p rest, ts = (3, x, p) :: rest → I 78 19 = nI x → K (some (.int (nI 1))) I (sx_run rw m ln)) (h0 : (∀ p rest, ts ≠ (3, x, p) :: rest) → K (some (.int (nI 0))) I (sx_run rw m ln)) : sx_C 175 (d + 1) [.ref 78, .int y] I (sx_run rw m ln) K := by
  subst hy
  obtain ⟨b, e, h15, h16, hb, he, hd⟩ := h
  cases ts with
  | nil => exact c_isSign (fun q => absurd (hd.1.symm.trans q.1) (by decide)) (fun _ => h0 (fun p rest q => by cases q))
  | cons t rest =>
    obtain ⟨s, v, p⟩ := t
    obtain ⟨hp, hd⟩ := hd
    rcases hd with ⟨q1, q⟩ | ⟨q1, q2, q⟩
    · refine c_isSign (fun z => absurd z.1 ?_) (fun _ => h0 (fun p rest z => ?_))
      · rcases q with q | ⟨q, -⟩
        · rw [q]; decide
        · rw [q]; decide
      · injection z with z1 _; injection z1 with z1 _; omega
    · rcases q with ⟨q3, q, -⟩ | ⟨q3, q, -⟩ | ⟨q3, q, q5, q6, -⟩
      · exact c_isSign (fun z => absurd (q.symm.trans z.1) (by decide)) (fun _ => h0 (fun p rest z => by injection z with z1 _; injection z1 with z1 _; omega))
      · exact c_isSign (fun z => absurd (q.symm.trans z.1) (by decide)) (fun _ => h0 (fun p rest z => by injection z with z1 _; injection z1 with z1 _; omega))
      · refine c_isSign (fun z => ?_) (fun z => h0 (fun p2 rest2 z2 => ?_))
        · have : v = x := (nI_eq (by omega) (by omega)).mp (q5.symm.trans z.2)
          exact h1 p rest (by rw [q3, this]) z.2
        · injection z2 with z1 _; injection z1 with z1 z3; injection z3 with z3 _
          exact z ⟨q, by rw [q5, z3]⟩
end
