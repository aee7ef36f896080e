/-! ===== the law's start: the world as the Statement gives it ===== -/
theorem lw_w1 {w : Jvm.Cond} (i : Nat) (h : tables_1_1[i]? = some w) : w ∈ lw_tbl := List.mem_append_right _ (List.mem_append_left _ (List.mem_of_getElem? h))
theorem lw_w2 {w : Jvm.Cond} (i : Nat) (h : tables_1_2[i]? = some w) : w ∈ lw_tbl := List.mem_append_right _ (List.mem_append_right _ (List.mem_append_left _ (List.mem_of_getElem? h)))
theorem lw_w3 {w : Jvm.Cond} (i : Nat) (h : tables_1_3[i]? = some w) : w ∈ lw_tbl := List.mem_append_right _ (List.mem_append_right _ (List.mem_append_right _ (List.mem_append_left _ (List.mem_of_getElem? h))))
theorem lw_w4 {w : Jvm.Cond} (i : Nat) (h : tables_1_4[i]? = some w) : w ∈ lw_tbl := List.mem_append_right _ (List.mem_append_right _ (List.mem_append_right _ (List.mem_append_right _ (List.mem_append_left _ (List.mem_of_getElem? h)))))
section
variable {s : State} {b : Nat}
def i_fa (s : State) : Nat → Prop := fun q => s.heap.size ≤ q
theorem i_faN {a : Nat} (h : a < s.heap.size) : ¬ i_fa s a := Nat.not_le.mpr h
set_option maxRecDepth 100000 in
theorem i_stat0 (hts : ∀ w ∈ lw_tbl, w.before #[Value.ref b] s = true) (hgv : (Jvm.Cond.and given_1 narrow_1).before #[Value.ref b] s = true) : ∃ t : Nat, va_Z "StrawGarrison" "MOST_OF_RULE" "[I" (.ref t) (i_fa s) s s.heap ∧ va_T .int t 4 (fun j => .int (sx_rom 0 j)) (i_fa s) s s.heap := by
  have hs := flat_of_before _ hgv
  have el : ∀ j : Nat, j < 4 → (Term.elem (.static "StrawGarrison" "MOST_OF_RULE" "[I") (.int (Int32.ofNat j))).eval #[Value.ref b] s none [] s = some (.int (sx_rom 0 j)) := by
    intro j hj
    match j, hj with
    | 0, _ => exact va_eqt (hs _ (by decide +kernel))
    | 1, _ => exact va_eqt (hs _ (by decide +kernel))
    | 2, _ => exact va_eqt (hs _ (by decide +kernel))
    | 3, _ => exact va_eqt (hs _ (by decide +kernel))
    | j + 4, h => exact absurd h (by omega)
  obtain ⟨t, v, T⟩ := va_Tof (tm := .static "StrawGarrison" "MOST_OF_RULE" "[I") (ty := .int) (N := 4) (f := fun j => .int (sx_rom 0 j)) (A := i_fa s) (by decide) (hs _ (by decide +kernel)) (va_eqt (hs _ (by decide +kernel))) el (fun a h => i_faN h)
  exact ⟨t, va_Zof (hts _ (lw_w2 92 rfl)) (hts _ (lw_w1 1 rfl)) v (fun a h => i_faN h), T⟩
set_option maxRecDepth 100000 in
theorem i_stat1 (hts : ∀ w ∈ lw_tbl, w.before #[Value.ref b] s = true) (hgv : (Jvm.Cond.and given_1 narrow_1).before #[Value.ref b] s = true) : ∃ t : Nat, va_Z "StrawGarrison$Kinds" "ABOVE" "[I" (.ref t) (i_fa s) s s.heap ∧ va_T .int t 6 (fun j => .int (sx_rom 1 j)) (i_fa s) s s.heap := by
  have hs := flat_of_before _ hgv
  have el : ∀ j : Nat, j < 6 → (Term.elem (.static "StrawGarrison$Kinds" "ABOVE" "[I") (.int (Int32.ofNat j))).eval #[Value.ref b] s none [] s = some (.int (sx_rom 1 j)) := by
    intro j hj
    match j, hj with
    | 0, _ => exact va_eqt (hs _ (by decide +kernel))
    | 1, _ => exact va_eqt (hs _ (by decide +kernel))
    | 2, _ => exact va_eqt (hs _ (by decide +kernel))
    | 3, _ => exact va_eqt (hs _ (by decide +kernel))
    | 4, _ => exact va_eqt (hs _ (by decide +kernel))
    | 5, _ => exact va_eqt (hs _ (by decide +kernel))
    | j + 6, h => exact absurd h (by omega)
  obtain ⟨t, v, T⟩ := va_Tof (tm := .static "StrawGarrison$Kinds" "ABOVE" "[I") (ty := .int) (N := 6) (f := fun j => .int (sx_rom 1 j)) (A := i_fa s) (by decide) (hs _ (by decide +kernel)) (va_eqt (hs _ (by decide +kernel))) el (fun a h => i_faN h)
  exact ⟨t, va_Zof (hts _ (lw_w2 69 rfl)) (hts _ (lw_w1 10 rfl)) v (fun a h => i_faN h), T⟩
set_option maxRecDepth 100000 in
theorem i_stat2 (hts : ∀ w ∈ lw_tbl, w.before #[Value.ref b] s = true) (hgv : (Jvm.Cond.and given_1 narrow_1).before #[Value.ref b] s = true) : va_Z "java/lang/String" "COMPACT_STRINGS" "Z" (.int 1) (i_fa s) s s.heap := by
  have hs := flat_of_before _ hgv
  exact va_Zof (hts _ (lw_w3 77 rfl)) (hts _ (lw_w1 13 rfl)) (va_eqi (hs _ (by decide +kernel))) (fun a h => i_faN h)
set_option maxRecDepth 100000 in
theorem i_stat3 (hts : ∀ w ∈ lw_tbl, w.before #[Value.ref b] s = true) (hgv : (Jvm.Cond.and given_1 narrow_1).before #[Value.ref b] s = true) : ∃ f : Value, va_Z "jdk/internal/util/Preconditions" "SIOOBE_FORMATTER" "Ljava/util/function/BiFunction;" f (i_fa s) s s.heap ∧ (f = .null ∨ ∃ t : Nat, f = .ref t) := by
  have hs := flat_of_before _ hgv
  have h : va_Zq "jdk/internal/util/Preconditions" "SIOOBE_FORMATTER" "Ljava/util/function/BiFunction;" (i_fa s) s s.heap := va_Zqof (hts _ (lw_w3 93 rfl)) (hts _ (lw_w1 15 rfl)) (hs _ (by decide +kernel)) (fun a h => i_faN h)
  rcases h with h | ⟨t, h⟩
  · exact ⟨.null, h, Or.inl rfl⟩
  · exact ⟨.ref t, h, Or.inr ⟨t, rfl⟩⟩
def i_tm (i : Nat) : Term := .string "StrawGarrison$Reader" (sx_sk i)
set_option maxRecDepth 100000 in
theorem i_str (hgv : (Jvm.Cond.and given_1 narrow_1).before #[Value.ref b] s = true) : ∃ adK adV : Nat → Nat, vk_S 6 sx_sl sx_sb adK adV (i_fa s) s s.heap ∧ ∀ i : Nat, i < 6 → (i_tm i).eval #[Value.ref b] s none [] s = some (.ref (adK i)) := by
  have hs := flat_of_before _ hgv
  have h1 : ∀ i : Nat, i < 6 → sx_sl.getD i 0 < 2 ^ 31 := by decide
  have h2 : ∀ i : Nat, i < 6 → (Cond.exactly (i_tm i) "java/lang/String").before #[Value.ref b] s = true := by
    intro i hi
    match i, hi with
    | 0, _ => exact hs _ (by decide +kernel)
    | 1, _ => exact hs _ (by decide +kernel)
    | 2, _ => exact hs _ (by decide +kernel)
    | 3, _ => exact hs _ (by decide +kernel)
    | 4, _ => exact hs _ (by decide +kernel)
    | 5, _ => exact hs _ (by decide +kernel)
    | i + 6, h => exact absurd h (by omega)
  have h3 : ∀ i : Nat, i < 6 → (Cond.eq (.field (i_tm i) "java/lang/String" "coder" "B") (.int 0)).before #[Value.ref b] s = true := by
    intro i hi
    match i, hi with
    | 0, _ => exact hs _ (by decide +kernel)
    | 1, _ => exact hs _ (by decide +kernel)
    | 2, _ => exact hs _ (by decide +kernel)
    | 3, _ => exact hs _ (by decide +kernel)
    | 4, _ => exact hs _ (by decide +kernel)
    | 5, _ => exact hs _ (by decide +kernel)
    | i + 6, h => exact absurd h (by omega)
  have h4 : ∀ i : Nat, i < 6 → (Cond.arrayOf (.field (i_tm i) "java/lang/String" "value" "[B") .byte).before #[Value.ref b] s = true := by
    intro i hi
    match i, hi with
    | 0, _ => exact hs _ (by decide +kernel)
    | 1, _ => exact hs _ (by decide +kernel)
    | 2, _ => exact hs _ (by decide +kernel)
    | 3, _ => exact hs _ (by decide +kernel)
    | 4, _ => exact hs _ (by decide +kernel)
    | 5, _ => exact hs _ (by decide +kernel)
    | i + 6, h => exact absurd h (by omega)
  have h5 : ∀ i : Nat, i < 6 → (Cond.eq (.length (.field (i_tm i) "java/lang/String" "value" "[B")) (.int (Int32.ofNat (sx_sl.getD i 0)))).before #[Value.ref b] s = true := by
    intro i hi
    match i, hi with
    | 0, _ => exact hs _ (by decide +kernel)
    | 1, _ => exact hs _ (by decide +kernel)
    | 2, _ => exact hs _ (by decide +kernel)
    | 3, _ => exact hs _ (by decide +kernel)
    | 4, _ => exact hs _ (by decide +kernel)
    | 5, _ => exact hs _ (by decide +kernel)
    | i + 6, h => exact absurd h (by omega)
  have g0 : ∀ j : Nat, j < 4 → (Cond.eq (.elem (.field (i_tm 0) "java/lang/String" "value" "[B") (.int (Int32.ofNat j))) (.int ((sx_sb.getD 0 []).getD j 0))).before #[Value.ref b] s = true := by
    intro j hj
    match j, hj with
    | 0, _ => exact hs _ (by decide +kernel)
    | 1, _ => exact hs _ (by decide +kernel)
    | 2, _ => exact hs _ (by decide +kernel)
    | 3, _ => exact hs _ (by decide +kernel)
    | j + 4, h => exact absurd h (by omega)
  have g1 : ∀ j : Nat, j < 3 → (Cond.eq (.elem (.field (i_tm 1) "java/lang/String" "value" "[B") (.int (Int32.ofNat j))) (.int ((sx_sb.getD 1 []).getD j 0))).before #[Value.ref b] s = true := by
    intro j hj
    match j, hj with
    | 0, _ => exact hs _ (by decide +kernel)
    | 1, _ => exact hs _ (by decide +kernel)
    | 2, _ => exact hs _ (by decide +kernel)
    | j + 3, h => exact absurd h (by omega)
  have g2 : ∀ j : Nat, j < 4 → (Cond.eq (.elem (.field (i_tm 2) "java/lang/String" "value" "[B") (.int (Int32.ofNat j))) (.int ((sx_sb.getD 2 []).getD j 0))).before #[Value.ref b] s = true := by
    intro j hj
    match j, hj with
    | 0, _ => exact hs _ (by decide +kernel)
    | 1, _ => exact hs _ (by decide +kernel)
    | 2, _ => exact hs _ (by decide +kernel)
    | 3, _ => exact hs _ (by decide +kernel)
    | j + 4, h => exact absurd h (by omega)
  have g3 : ∀ j : Nat, j < 3 → (Cond.eq (.elem (.field (i_tm 3) "java/lang/String" "value" "[B") (.int (Int32.ofNat j))) (.int ((sx_sb.getD 3 []).getD j 0))).before #[Value.ref b] s = true := by
    intro j hj
    match j, hj with
    | 0, _ => exact hs _ (by decide +kernel)
    | 1, _ => exact hs _ (by decide +kernel)
    | 2, _ => exact hs _ (by decide +kernel)
    | j + 3, h => exact absurd h (by omega)
  have g4 : ∀ j : Nat, j < 2 → (Cond.eq (.elem (.field (i_tm 4) "java/lang/String" "value" "[B") (.int (Int32.ofNat j))) (.int ((sx_sb.getD 4 []).getD j 0))).before #[Value.ref b] s = true := by
    intro j hj
    match j, hj with
    | 0, _ => exact hs _ (by decide +kernel)
    | 1, _ => exact hs _ (by decide +kernel)
    | j + 2, h => exact absurd h (by omega)
  have g5 : ∀ j : Nat, j < 2 → (Cond.eq (.elem (.field (i_tm 5) "java/lang/String" "value" "[B") (.int (Int32.ofNat j))) (.int ((sx_sb.getD 5 []).getD j 0))).before #[Value.ref b] s = true := by
    intro j hj
    match j, hj with
    | 0, _ => exact hs _ (by decide +kernel)
    | 1, _ => exact hs _ (by decide +kernel)
    | j + 2, h => exact absurd h (by omega)
  have h6 : ∀ i : Nat, i < 6 → ∀ j : Nat, j < sx_sl.getD i 0 → (Cond.eq (.elem (.field (i_tm i) "java/lang/String" "value" "[B") (.int (Int32.ofNat j))) (.int ((sx_sb.getD i []).getD j 0))).before #[Value.ref b] s = true := by
    intro i hi
    match i, hi with
    | 0, _ => exact g0
    | 1, _ => exact g1
    | 2, _ => exact g2
    | 3, _ => exact g3
    | 4, _ => exact g4
    | 5, _ => exact g5
    | i + 6, h => exact absurd h (by omega)
  have n1 : ∀ i j : Nat, i < j → j < 6 → (Cond.not (Cond.eq (i_tm i) (i_tm j))).before #[Value.ref b] s = true := by
    intro i j hij hj
    have : (i = 0 ∧ (j = 1 ∨ j = 2 ∨ j = 3 ∨ j = 4 ∨ j = 5)) ∨ (i = 1 ∧ (j = 2 ∨ j = 3 ∨ j = 4 ∨ j = 5)) ∨ (i = 2 ∧ (j = 3 ∨ j = 4 ∨ j = 5)) ∨ (i = 3 ∧ (j = 4 ∨ j = 5)) ∨ (i = 4 ∧ j = 5) := by omega
    rcases this with ⟨rfl, rfl | rfl | rfl | rfl | rfl⟩ | ⟨rfl, rfl | rfl | rfl | rfl⟩ | ⟨rfl, rfl | rfl | rfl⟩ | ⟨rfl, rfl | rfl⟩ | ⟨rfl, rfl⟩
    all_goals exact hs _ (by decide +kernel)
  exact vk_Sof (tm := i_tm) h1 h2 h3 h4 h5 h6 (fun i j hi hj hne => (Nat.lt_or_ge i j).elim (fun z => Or.inl (n1 i j z hj)) (fun z => Or.inr (n1 j i (by omega) hi))) (fun a h => i_faN h)
set_option maxRecDepth 100000 in
theorem i_refs (hts : ∀ w ∈ lw_tbl, w.before #[Value.ref b] s = true) {adK : Nat → Nat} (h : ∀ i : Nat, i < 6 → (i_tm i).eval #[Value.ref b] s none [] s = some (.ref (adK i))) : ∀ i : Nat, i < 6 → vk_R "StrawGarrison$Reader" (sx_sk i) (sx_stx i) (adK i) s := by
  intro i hi
  match i, hi with
  | 0, _ => exact vk_R.of (hts _ (lw_w3 64 rfl)) (h 0 (by omega))
  | 1, _ => exact vk_R.of (hts _ (lw_w3 116 rfl)) (h 1 (by omega))
  | 2, _ => exact vk_R.of (hts _ (lw_w3 117 rfl)) (h 2 (by omega))
  | 3, _ => exact vk_R.of (hts _ (lw_w3 143 rfl)) (h 3 (by omega))
  | 4, _ => exact vk_R.of (hts _ (lw_w3 144 rfl)) (h 4 (by omega))
  | 5, _ => exact vk_R.of (hts _ (lw_w3 145 rfl)) (h 5 (by omega))
  | i + 6, h => exact absurd h (by omega)
set_option maxRecDepth 100000 in
theorem i_nest (hts : ∀ w ∈ lw_tbl, w.before #[Value.ref b] s = true) : ∀ q ∈ sx_nest, va_Nw (.methodLinkNest q.1 q.2.1 q.2.2.1 q.2.2.2) s :=
  List.forall_mem_cons.mpr ⟨va_tabs rfl rfl (hts _ (lw_w1 28 rfl)), List.forall_mem_cons.mpr ⟨va_tabs rfl rfl (hts _ (lw_w1 34 rfl)), List.forall_mem_cons.mpr ⟨va_tabs rfl rfl (hts _ (lw_w1 101 rfl)), List.forall_mem_cons.mpr ⟨va_tabs rfl rfl (hts _ (lw_w1 147 rfl)), List.forall_mem_cons.mpr ⟨va_tabs rfl rfl (hts _ (lw_w1 166 rfl)), List.forall_mem_cons.mpr ⟨va_tabs rfl rfl (hts _ (lw_w1 171 rfl)), List.forall_mem_cons.mpr ⟨va_tabs rfl rfl (hts _ (lw_w2 32 rfl)), List.forall_mem_cons.mpr ⟨va_tabs rfl rfl (hts _ (lw_w2 40 rfl)), fun _ h => absurd h List.not_mem_nil⟩⟩⟩⟩⟩⟩⟩⟩
theorem i_arrP {args : Array Value} {ty : FieldType} (h : (Cond.arrayClass ty).before args s = true) : ∃ cA : ClassId, ArrOfT s cA ty ∧ s.vm.findClass ("[" ++ ty.toString) = some cA := by
  obtain ⟨cA, kA, comp, h1, h2, h3⟩ := Cond.arrayClass_spec h
  exact ⟨cA, fun n z => ⟨(fun k h => by cases h), kA, h2, comp, h3⟩, h1⟩
theorem i_arrO {args : Array Value} {C : String} (h : (Cond.arrayOver (.object C)).before args s = true) : ∃ cA : ClassId, ArrOfT s cA (.object C) ∧ va_RA s cA (.object C) := by
  obtain ⟨comp, cA, kA, h1, h2, h3, h4, h5⟩ := Cond.arrayOver_spec h
  exact ⟨cA, fun n z => ⟨(fun k h => by cases h), kA, h3, comp, h4⟩, ⟨kA, comp, h3, h4, h1, h5⟩⟩
set_option maxRecDepth 100000 in
theorem i_cls (hts : ∀ w ∈ lw_tbl, w.before #[Value.ref b] s = true) : ∃ D : va_G, ∀ (k : Nat) (q : vw_C), vwCl[k]? = some q → u_Kn s q.1 q.2.1 q.2.2 (D.1 k) (D.2 k) := by
  have hts' : ∀ w ∈ sx_tb, w.before #[Value.ref b] s = true := fun w h => hts w (List.mem_filter.mp h).1
  obtain ⟨c0, i0, K0⟩ := u_known (C := RX0) (T := TX0) (N := 3) (n := 3) hts' cu_0 (hts _ (lw_w1 33 rfl))
  obtain ⟨c1, i1, K1⟩ := u_known (C := RX1) (T := TX1) (N := 11) (n := 11) hts' cu_1 (hts _ (lw_w1 27 rfl))
  obtain ⟨c2, i2, K2⟩ := u_known (C := RX3) (T := TX3) (N := 10) (n := 10) hts' cu_2 (hts _ (lw_w1 100 rfl))
  obtain ⟨c3, i3, K3⟩ := u_known (C := RX4) (T := TX4) (N := 3) (n := 3) hts' cu_3 (hts _ (lw_w1 146 rfl))
  obtain ⟨c4, i4, K4⟩ := u_known (C := RX5) (T := TX5) (N := 5) (n := 5) hts' cu_4 (hts _ (lw_w1 165 rfl))
  obtain ⟨c5, i5, K5⟩ := u_known (C := RX6) (T := TX6) (N := 4) (n := 4) hts' cu_5 (hts _ (lw_w3 229 rfl))
  obtain ⟨c6, i6, K6⟩ := u_known (C := RX7) (T := TX7) (N := 12) (n := 12) hts' cu_6 (hts _ (lw_w1 19 rfl))
  obtain ⟨c7, i7, K7⟩ := u_known (C := RX8) (T := TX8) (N := 31) (n := 31) hts' cu_7 (hts _ (lw_w4 113 rfl))
  refine ⟨(fun k => match k with | 0 => c0 | 1 => c1 | 2 => c2 | 3 => c3 | 4 => c4 | 5 => c5 | 6 => c6 | _ => c7, fun k => match k with | 0 => i0 | 1 => i1 | 2 => i2 | 3 => i3 | 4 => i4 | 5 => i5 | 6 => i6 | _ => i7), ?_⟩
  intro k q hq
  match k, hq with
  | 0, hq => cases hq; exact K0
  | 1, hq => cases hq; exact K1
  | 2, hq => cases hq; exact K2
  | 3, hq => cases hq; exact K3
  | 4, hq => cases hq; exact K4
  | 5, hq => cases hq; exact K5
  | 6, hq => cases hq; exact K6
  | 7, hq => cases hq; exact K7
  | k + 8, hq => exact absurd (show (none : Option vw_C) = some q from hq) (by intro z; cases z)
def i_adr (t0 t1 b : Nat) (adK adV : Nat → Nat) (a : Nat) : Nat := match a with | 0 => t0 | 1 => t1 | 2 => adK 0 | 3 => adK 1 | 4 => adK 2 | 5 => adK 3 | 6 => adK 4 | 7 => adK 5 | 8 => adV 0 | 9 => adV 1 | 10 => adV 2 | 11 => adV 3 | 12 => adV 4 | 13 => adV 5 | _ => b
theorem i_adr_K (t0 t1 b : Nat) (adK adV : Nat → Nat) : ∀ i, i < 6 → i_adr t0 t1 b adK adV (2 + i) = adK i := by
  intro i hi
  match i, hi with
  | 0, _ => rfl
  | 1, _ => rfl
  | 2, _ => rfl
  | 3, _ => rfl
  | 4, _ => rfl
  | 5, _ => rfl
  | i + 6, h => exact absurd h (by omega)
set_option maxRecDepth 100000 in
theorem i_world {L : Nat} {xs : Nat → Int32} (hL : L ≤ 3072) (hts : ∀ w ∈ lw_tbl, w.before #[Value.ref b] s = true) (hgv : (Jvm.Cond.and given_1 narrow_1).before #[Value.ref b] s = true) (hX : va_X b L xs s s.heap) (hbl : b < s.heap.size) :
    ∃ P : sx_P, P.1 14 = b ∧ P.2.2.1 = s.heap.size ∧ sx_RO P s s.heap ∧ sx_Rel P (fun a j => if a = 14 then xs j else 0) (fun _ _ => none, .inl 15, fun a => if a = 14 then L else 0) s s.heap := by
  obtain ⟨t0, Z0, T0⟩ := i_stat0 hts hgv
  obtain ⟨t1, Z1, T1⟩ := i_stat1 hts hgv
  have Z2 := i_stat2 hts hgv
  obtain ⟨f, Z3, hf⟩ := i_stat3 hts hgv
  obtain ⟨adK, adV, hSt, hev⟩ := i_str hgv
  have hR := i_refs hts hev
  obtain ⟨D, hD⟩ := i_cls hts
  obtain ⟨aI, x1, y1⟩ := i_arrP (s := s) (ty := .int) (hts _ (lw_w1 53 rfl))
  obtain ⟨aB, x2, y2⟩ := i_arrP (s := s) (ty := .byte) (hts _ (lw_w1 164 rfl))
  obtain ⟨aZ, x3, y3⟩ := i_arrP (s := s) (ty := .boolean) (hts _ (lw_w1 141 rfl))
  obtain ⟨aT, x4, y4⟩ := i_arrO (s := s) (C := "StrawGarrison$Text") (hts _ (lw_w1 39 rfl))
  obtain ⟨aS, x5, y5⟩ := i_arrO (s := s) (C := "StrawGarrison$Sheet") (hts _ (lw_w1 143 rfl))
  obtain ⟨aL, x6, y6⟩ := i_arrO (s := s) (C := "StrawGarrison$Slot") (hts _ (lw_w1 145 rfl))
  obtain ⟨scr, q1, q2, q3, q4, q5⟩ := hX
  refine ⟨(i_adr t0 t1 b adK adV, f, s.heap.size, fun t => match t with | 0 => aI | 1 => aB | 2 => aZ | 3 => aT | 4 => aS | _ => aL, D), rfl, rfl, ⟨⟨Z0, T0⟩, ⟨Z1, T1⟩, Z2, ⟨Z3, hf⟩, ?_, ⟨?_, ?_⟩, i_nest hts, va_AO.of (hts _ (lw_w1 39 rfl)), va_AO.of (hts _ (lw_w1 143 rfl)), va_AO.of (hts _ (lw_w1 145 rfl))⟩, ⟨⟨hD, ?_⟩, ?_, rfl, Nat.le_refl 15, ?_, ?_⟩⟩
  · intro i hi
    match i, hi with
    | 0, hi => exact hR 0 hi
    | 1, hi => exact hR 1 hi
    | 2, hi => exact hR 2 hi
    | 3, hi => exact hR 3 hi
    | 4, hi => exact hR 4 hi
    | 5, hi => exact hR 5 hi
    | i + 6, h => exact absurd h (by omega)
  · intro i hi
    match i, hi with
    | 0, hi => exact hSt.1 0 hi
    | 1, hi => exact hSt.1 1 hi
    | 2, hi => exact hSt.1 2 hi
    | 3, hi => exact hSt.1 3 hi
    | 4, hi => exact hSt.1 4 hi
    | 5, hi => exact hSt.1 5 hi
    | i + 6, h => exact absurd h (by omega)
  · have e := i_adr_K t0 t1 b adK adV
    intro i j hi hj h
    exact hSt.2 i j hi hj ((e i hi).symm.trans (Eq.trans h (e j hj)))
  · intro k q hq
    match k, hq with
    | 0, hq => cases hq; exact ⟨x1, y1⟩
    | 1, hq => cases hq; exact ⟨x2, y2⟩
    | 2, hq => cases hq; exact ⟨x3, y3⟩
    | 3, hq => cases hq; exact ⟨x4, y4⟩
    | 4, hq => cases hq; exact ⟨x5, y5⟩
    | 5, hq => cases hq; exact ⟨x6, y6⟩
    | k + 6, hq => exact absurd (show (none : Option (ClassId × FieldType)) = some q from hq) (by intro z; cases z)
  · intro k q hq
    exact absurd (show (none : Option (Nat × va_E)) = some q from hq) (by intro z; cases z)
  · intro a
    show (if a = 14 then L else 0) < 2 ^ 31
    split <;> omega
  · exact ⟨scr, q1, q2, q3, Nat.le_of_eq q4.symm, by rw [q4]; rfl, q5, i_faN hbl⟩
end
