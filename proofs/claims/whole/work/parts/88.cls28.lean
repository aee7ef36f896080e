/-! ===== the class: the reader reads a tape ===== -/
section
variable {d m : Nat} {I I0 : sx_I} {rw : Nat → Nat → Option Nat} {ln : Nat → Nat} {K : sx_K} {T : Nat → Nat} {n : Nat} {key : Int32} {R : Nat ⊕ (List (Nat × Nat) × Nat)}
theorem gy_rd.b5 {S : List Nat} {o : List (Nat × Nat)} {w br bg : Nat} {due : Bool} {cmp : Nat → Int32} (hT : gy_b5 T n I0) (h : gy_rd I0 key S o w br bg due cmp I) : gy_b5 T n I :=
  ⟨hT.1, fun i hi => by rw [h.1 50 (by omega)]; exact hT.2 i hi⟩
theorem gy_rd.sk {S : List Nat} {o : List (Nat × Nat)} {w br bg : Nat} {due : Bool} {cmp : Nat → Int32} (h : gy_rd I0 key S o w br bg due cmp I) (v : Int32) : gy_rd I0 v S o w br bg due cmp (sx_up I 46 (upd (I 46) 0 v)) := by
  obtain ⟨g0, gk, g1, g3, g5, g6, g7, g8, g9, gs, go⟩ := h
  refine ⟨fun q hq => by rw [sx_up_ne (by omega)]; exact g0 q hq, ?_, ?_, ?_, ?_, ?_, ?_, ?_, ?_, ?_, ?_⟩
  · rw [sx_up_same, pk_us]
  · rw [sx_up_same, pk_un (by decide)]; exact g1
  · rw [sx_up_same, pk_un (by decide)]; exact g3
  · rw [sx_up_same, pk_un (by decide)]; exact g5
  · rw [sx_up_same, pk_un (by decide)]; exact g6
  · rw [sx_up_same, pk_un (by decide)]; exact g7
  · rw [sx_up_same, pk_un (by decide)]; exact g8
  · rw [sx_up_ne (by decide)]; exact g9
  · rw [sx_up_ne (by decide)]; exact gs
  · rw [sx_up_ne (by decide)]; exact go
theorem v1_read126 {S : List Nat} {o : List (Nat × Nat)} {w br bg k p i : Nat} {due : Bool} {cmp : Nat → Int32} (hkey : key = 0 ∨ key = nI 1 ∨ key = nI 2) (hT : gy_b5 T n I0) (h : gy_rd I0 key S o w br bg due cmp I) (hi : gy_inv k S o br bg) (hk96 : k < 96) (hp : p < n) (hs0 : gy_so (T p) ≠ 0)
    (bad : (∀ l, gy_run n key (gy_one T p (gy_to T n p) l) S o w br bg due cmp = .inl p) → K (some (.int (nI p))) I (sx_run rw m ln))
    (next : ∀ J S' o' w' br' bg' due' cmp', gy_rd I0 key S' o' w' br' bg' due' cmp' J → gy_inv (k + 1) S' o' br' bg' → (∀ l, gy_run n key (gy_one T p (gy_to T n p) l) S o w br bg due cmp = gy_run n key l S' o' w' br' bg' due' cmp') → sx_V 32 (d + 7) 0 0 K 44 [(0, .ref 46), (1, .ref 50), (2, .int (nI n)), (4, .int (nI (gy_to T n p))), (5, .int (nI (i + 1)))] [] J (sx_run rw m ln)) :
    sx_V 32 (d + 7) 0 0 K 126 [(0, .ref 46), (1, .ref 50), (2, .int (nI n)), (3, .int (nI p)), (5, .int (nI i))] [] I (sx_run rw m ln) := by
  have hTI := gy_rd.b5 hT h
  have hn := hT.1
  have gt := gy_to_gt T n p
  have eke : gy_ke T n p = gy_to T n p := if_pos hp
  refine sx_go m32 100 rfl (fun VV CC hV hC => ?_)
  refine hC _ _ _ _ _ (c1_endOf (d := d + 4) hTI rfl rfl (Nat.le_of_lt hp) ?_)
  rw [eke]
  refine hC _ _ _ _ _ (c1_goesOn (d := d) (T := T) (n := n) (key := key) (k := k) rfl hp rfl hTI hs0 hkey h hi hk96 (fun z => ⟨fun y => absurd rfl y, fun _ => bad z⟩) (fun J S' o' w' br' bg' due' cmp' z1 z2 z3 => ⟨fun _ => ?_, fun (y : nI 1 = 0) => absurd y (by decide)⟩))
  have nx := next J S' o' w' br' bg' due' cmp' z1 z2 z3
  rw [nI_succ] at nx
  exact hV _ _ _ _ _ _ _ nx
theorem v1_read44 (hkey : key = 0 ∨ key = nI 1 ∨ key = nI 2) (hT : gy_b5 T n I0)
    (hF : ∀ J b, (∀ q, (q < 46 ∨ 49 < q) → J q = I0 q) → R = .inl b → b ≤ n → K (some (.int (nI b))) J (sx_run rw m ln))
    (hR : ∀ J S o w br bg due cmp, gy_rd I0 key S o w br bg due cmp J → o.length ≤ 93 → R = .inr (o, w) → K (some (.int (-1000000005))) J (sx_run rw m ln)) :
    ∀ (r e i : Nat) (I : sx_I) (S : List Nat) (o : List (Nat × Nat)) (w br bg : Nat) (due : Bool) (cmp : Nat → Int32), n - e < r → e ≤ n → 3 ≤ e → i ≤ e → gy_rd I0 key S o w br bg due cmp I → gy_inv (e - 3) S o br bg → gy_run n key (gy_tk T n e) S o w br bg due cmp = R →
      sx_V 32 (d + 7) 0 0 K 44 [(0, .ref 46), (1, .ref 50), (2, .int (nI n)), (4, .int (nI e)), (5, .int (nI i))] [] I (sx_run rw m ln) := by
  intro r
  induction r with
  | zero => intro e i I S o w br bg due cmp hr; exact absurd hr (Nat.not_lt_zero _)
  | succ r ih =>
    intro e i I S o w br bg due cmp hr hen h0 hie h hi hrun
    have hTI := gy_rd.b5 hT h
    have hn := hT.1
    have hb := hi.1
    have hb96 : o.length + S.length ≤ 96 := by omega
    have hb93 : (gy_pop 0 S o).2.length ≤ 93 := by have := (gy_pop_n3 0 S o).2; omega
    have tkE : ∀ _ : Unit, n ≤ gy_bl T (n - e) e → gy_run n key [] S o w br bg due cmp = R := fun _ c => by rw [gy_tk_eq, if_pos c] at hrun; exact hrun
    have fin := fun (_ : Unit) (c : n ≤ gy_bl T (n - e) e) => v1_readEnd (m := m) (rw := rw) (ln := ln) (K := K) h hb96 hi.2.2.2 (fun z => hF I n h.1 ((tkE () c).symm.trans z) (Nat.le_refl n)) (fun z J hJ => hR J _ _ _ _ _ _ _ hJ hb93 ((tkE () c).symm.trans z))
    have hge := gy_bl_ge T (n - e) e
    have hle : gy_bl T (n - e) e ≤ n := by have := gy_bl_le T (n - e) e; omega
    have hno := gy_bl_no T (n - e) e
    rw [gy_tk_eq] at hrun
    generalize epp : gy_bl T (n - e) e = p at *
    have v126 : p < n → ¬ ((gy_so (T p) ≠ 3 ∧ p = e) ∧ 0 < e ∧ gy_so (T (e - 1)) ≠ 3) → sx_V 32 (d + 7) 0 0 K 126 [(0, .ref 46), (1, .ref 50), (2, .int (nI n)), (3, .int (nI p)), (5, .int (nI i))] [] I (sx_run rw m ln) := by
      intro hp c
      rw [if_neg (by omega), if_neg c] at hrun
      have gt := gy_to_gt T n p
      refine v1_read126 hkey hT h hi (by omega) hp (fun z => hno (by omega) (gy_so0.mp z)) (fun z => hF I p h.1 (hrun.symm.trans (z _)) (Nat.le_of_lt hp)) (fun J S' o' w' br' bg' due' cmp' z1 z2 z3 => ?_)
      exact ih (gy_to T n p) (i + 1) J S' o' w' br' bg' due' cmp' (by omega) (gy_to_le T n p hp) (by omega) (by omega) z1 ⟨by have := z2.1; omega, z2.2⟩ ((z3 _).symm.trans hrun)
    have v108 : ∀ f g : Int32, p < n → (f = 0 ∧ ¬ (0 < e ∧ gy_so (T (e - 1)) ≠ 3) ∨ f = nI 1 ∧ (0 < e ∧ gy_so (T (e - 1)) ≠ 3)) → (g = 0 ∧ gy_so (T p) = 3 ∨ g = nI 1 ∧ gy_so (T p) ≠ 3) → sx_V 32 (d + 7) 0 0 K 108 [(0, .ref 46), (1, .ref 50), (2, .int (nI n)), (3, .int (nI p)), (4, .int (nI e)), (5, .int (nI i)), (6, .int f), (7, .int g)] [] I (sx_run rw m ln) := by
      intro f g hp hf hg
      refine sx_go m32 100 rfl (fun VV CC hV hC => ?_)
      refine ⟨fun (c1 : g = 0) => hV _ _ _ _ _ _ _ (v126 hp (fun z => ?_)), fun (c1 : ¬ g = 0) => ⟨fun (c2 : f = 0) => hV _ _ _ _ _ _ _ (v126 hp (fun z => ?_)), fun (c2 : ¬ f = 0) => ⟨fun (c3 : ¬ nI p = nI e) => hV _ _ _ _ _ _ _ (v126 hp (fun z => ?_)), fun (c3 : nI p = nI e) => ?_⟩⟩⟩
      · rcases hg with ⟨-, y⟩ | ⟨y, -⟩
        · exact z.1.1 y
        · rw [y] at c1; exact absurd c1 (by decide)
      · rcases hf with ⟨-, y⟩ | ⟨y, -⟩
        · exact y z.2
        · rw [y] at c2; exact absurd c2 (by decide)
      · exact c3 (by rw [z.1.2])
      · rw [nI_eq (by omega) (by omega)] at c3
        have y1 := (hg.resolve_left (fun z => c1 z.1)).2
        have y2 := (hf.resolve_left (fun z => c2 z.1)).2
        rw [if_neg (by omega), if_pos ⟨⟨y1, c3⟩, y2⟩] at hrun
        exact hF I p h.1 (hrun.symm.trans (if_pos rfl)) (Nat.le_of_lt hp)
    have v75 : ∀ f : Int32, (f = 0 ∧ ¬ (0 < e ∧ gy_so (T (e - 1)) ≠ 3) ∨ f = nI 1 ∧ (0 < e ∧ gy_so (T (e - 1)) ≠ 3)) → sx_V 32 (d + 7) 0 0 K 75 [(0, .ref 46), (1, .ref 50), (2, .int (nI n)), (4, .int (nI e)), (5, .int (nI i)), (6, .int f)] [] I (sx_run rw m ln) := by
      intro f hf
      refine sx_go m32 100 rfl (fun VV CC hV hC => ?_)
      refine hC _ _ _ _ _ (c1_blanks (d := d + 4) hTI rfl rfl hen ?_)
      rw [epp]
      refine ⟨fun (c : nI p < nI n) => ?_, fun (c : ¬ nI p < nI n) => ?_⟩
      · rw [nI_ltI (by omega) (by omega)] at c
        obtain ⟨e1, l1⟩ := hTI.2 p c
        refine ⟨p, ⟨rfl, by omega⟩, hC _ _ _ _ _ (c1_sortOf (d := d + 5) e1 l1 ?_)⟩
        have z3 : nI (gy_so (T p)) = nI 3 ↔ gy_so (T p) = 3 := nI_eq (by have := gy_so4 (T p); omega) (by omega)
        exact ⟨fun (y : nI (gy_so (T p)) = nI 3) => hV _ _ _ _ _ _ _ (v108 f 0 c hf (Or.inl ⟨rfl, z3.mp y⟩)), fun (y : ¬ nI (gy_so (T p)) = nI 3) => hV _ _ _ _ _ _ _ (v108 f (nI 1) c hf (Or.inr ⟨rfl, fun x => y (z3.mpr x)⟩))⟩
      · rw [nI_ltI (by omega) (by omega)] at c
        have c : n ≤ p := by omega
        exact ⟨(fin () c).1, fun c8 => ⟨fun c6 => hC _ _ _ _ _ (c1_putDownFrom (d := d + 4) (l := 0) rfl (by decide) h hb96 (((fin () c).2 c8).2 c6)), ((fin () c).2 c8).1⟩⟩
    refine sx_go m32 100 rfl (fun VV CC hV hC => ?_)
    refine ⟨fun (c : nI n ≤ nI i) => ?_, fun (c : ¬ nI n ≤ nI i) => ?_⟩
    · rw [nI_leI (by omega) (by omega)] at c
      have c : n ≤ p := by omega
      exact ⟨(fin () c).1, fun c8 => ⟨fun c6 => hC _ _ _ _ _ (c1_putDownFrom (d := d + 4) (l := 0) rfl (by decide) h hb96 (((fin () c).2 c8).2 c6)), ((fin () c).2 c8).1⟩⟩
    · rw [nI_leI (by omega) (by omega)] at c
      refine ⟨fun (y : nI e ≤ 0) => absurd ((nI_leI (b := 0) (by omega) (by omega)).mp y) (by omega), fun _ => ?_⟩
      obtain ⟨e1, l1⟩ := hTI.2 (e - 1) (by omega)
      refine ⟨e - 1, ⟨pk_sub (by omega), by omega⟩, hC _ _ _ _ _ (c1_sortOf (d := d + 5) e1 l1 ?_)⟩
      have z3 : nI (gy_so (T (e - 1))) = nI 3 ↔ gy_so (T (e - 1)) = 3 := nI_eq (by have := gy_so4 (T (e - 1)); omega) (by omega)
      exact ⟨fun (y : nI (gy_so (T (e - 1))) = nI 3) => hV _ _ _ _ _ _ _ (v75 0 (Or.inl ⟨rfl, fun x => x.2 (z3.mp y)⟩)), fun (y : ¬ nI (gy_so (T (e - 1))) = nI 3) => hV _ _ _ _ _ _ _ (v75 (nI 1) (Or.inr ⟨rfl, by omega, fun x => y (z3.mpr x)⟩))⟩
theorem c1_read {cmp : Nat → Int32} (hc : cmp = upd (I 49) 0 0) {x : Int32} (hx : x = nI n) (hT : gy_b5 T n I)
    (hF : ∀ J b, (∀ q, (q < 46 ∨ 49 < q) → J q = I q) → gy_read T n cmp = .inl b → b ≤ n → K (some (.int (nI b))) J (sx_run rw m ln))
    (hR : ∀ J key o w, (∀ q, (q < 46 ∨ 49 < q) → J q = I q) → gy_read T n cmp = .inr (key, o, w) → J 46 0 = key → J 46 1 = nI w → J 46 3 = nI o.length → o.length ≤ 93 → gy_cd (J 47) o → K (some (.int (-1000000005))) J (sx_run rw m ln)) :
    sx_C 32 (d + 7) [.ref 46, .ref 50, .int x] I (sx_run rw m ln) K := by
  subst hx; subst hc
  have hn := hT.1
  refine sx_enter (by decide +kernel) (Nat.le_of_ble_eq_true rfl) (sx_go m32 100 rfl (fun VV CC hV hC => ?_))
  refine hC _ _ _ _ _ (c1_start (d := d + 5) (fun J0 h0 => ?_))
  have hT0 := gy_rd.b5 hT h0
  refine hC _ _ _ _ _ (c1_blanks (d := d + 4) (p := 0) hT0 rfl rfl (by omega) ?_)
  have hp : gy_bl T n 0 ≤ n := by have := gy_bl_le T n 0; omega
  have e0 : n - 0 = n := rfl
  rw [e0]
  refine hC _ _ _ _ _ (c1_endOf (d := d + 4) hT0 rfl rfl hp ?_)
  have hle : gy_ke T n (gy_bl T n 0) ≤ n ∧ gy_bl T n 0 ≤ gy_ke T n (gy_bl T n 0) := by
    unfold gy_ke
    by_cases c : gy_bl T n 0 < n
    · rw [if_pos c]; exact ⟨gy_to_le T n _ c, Nat.le_of_lt (gy_to_gt T n _)⟩
    · rw [if_neg c]; exact ⟨hp, Nat.le_refl _⟩
  have hlt : ¬ gy_key T (gy_bl T n 0) (gy_ke T n (gy_bl T n 0)) = -1 → 3 ≤ gy_ke T n (gy_bl T n 0) := by
    intro ck
    refine Nat.le_of_not_lt (fun z => ck ?_)
    unfold gy_key
    rw [if_neg (fun y => ?_), if_neg (fun y => ?_), if_neg (fun y => ?_)]
    · have := (decide_eq_true_iff.mp y).1; omega
    · have := (decide_eq_true_iff.mp y).1; omega
    · have := (decide_eq_true_iff.mp y).1; omega
  refine hC _ _ _ _ _ (c1_keyOf (d := d) rfl rfl hT0 hle.2 hle.1 ?_)
  have key3 := gy_key3 (T := T) (gy_bl T n 0) (gy_ke T n (gy_bl T n 0))
  have erd1 : gy_key T (gy_bl T n 0) (gy_ke T n (gy_bl T n 0)) = -1 → gy_read T n (upd (I 49) 0 0) = .inl (gy_bl T n 0) := fun ck => if_pos ck
  have erd2 : ¬ gy_key T (gy_bl T n 0) (gy_ke T n (gy_bl T n 0)) = -1 → gy_read T n (upd (I 49) 0 0) = match gy_run n (gy_key T (gy_bl T n 0) (gy_ke T n (gy_bl T n 0))) (gy_tk T n (gy_ke T n (gy_bl T n 0))) [] [] 0 0 0 true (upd (I 49) 0 0) with
      | .inl b => .inl b
      | .inr (o, w) => .inr (gy_key T (gy_bl T n 0) (gy_ke T n (gy_bl T n 0)), o, w) := fun ck => if_neg ck
  generalize gy_key T (gy_bl T n 0) (gy_ke T n (gy_bl T n 0)) = key at *
  generalize gy_ke T n (gy_bl T n 0) = e at *
  generalize gy_bl T n 0 = p at *
  have fin : ∀ v : Int32, v = (if key = -1 then -1000000005 else key) → (¬ v = -1000000005 → sx_V 32 (d + 7) 0 0 K 44 [(0, .ref 46), (1, .ref 50), (2, .int (nI n)), (4, .int (nI e)), (5, .int (nI 0))] [] (sx_up J0 46 (upd (J0 46) 0 v)) (sx_run rw m ln)) ∧ (v = -1000000005 → K (some (.int (nI p))) (sx_up J0 46 (upd (J0 46) 0 v)) (sx_run rw m ln)) := by
    intro v hv
    have hr := gy_rd.sk h0 v
    by_cases ck : key = -1
    · rw [if_pos ck] at hv
      exact ⟨fun z => absurd hv z, fun _ => hF _ _ hr.1 (erd1 ck) hp⟩
    · rw [if_neg ck] at hv
      subst hv
      have hkey := key3.resolve_left ck
      refine ⟨fun _ => ?_, fun z => ?_⟩
      · refine v1_read44 (d := d) (R := gy_run n v (gy_tk T n e) [] [] 0 0 0 true (upd (I 49) 0 0)) hkey hT (fun J b z1 z2 z3 => hF J b z1 ?_ z3) (fun J S o w br bg due cmp z1 z9 z2 => hR J v o w z1.1 ?_ z1.2.1 z1.2.2.1 z1.2.2.2.1 z9 z1.2.2.2.2.2.2.2.2.2.2) (n - e + 1) e 0 _ [] [] 0 0 0 true _ (by omega) hle.1 (hlt ck) (Nat.zero_le _) hr ⟨Nat.zero_le _, Nat.le_refl _, by omega, by omega⟩ rfl
        · rw [erd2 ck, z2]
        · rw [erd2 ck, z2]
      · exfalso
        rcases hkey with y | y | y <;> rw [y] at z <;> exact absurd z (by decide)
  have f := fin _ rfl
  exact ⟨fun c => hV _ _ _ _ _ _ _ (f.1 (by rw [sx_up_same, pk_us] at c; exact c)), fun c => f.2 (by rw [sx_up_same, pk_us] at c; exact c)⟩
end
