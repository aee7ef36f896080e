/-! ===== locals ===== -/
theorem sx_bf {a b : Nat} : Nat.beq a b = false ↔ a ≠ b := by
  constructor
  · exact fun h => Nat.ne_of_beq_eq_false h
  · intro h
    cases hb : Nat.beq a b with
    | true => exact absurd (Nat.eq_of_beq_eq_true hb) h
    | false => rfl
theorem sx_lk_mem : ∀ (L : sx_L) (i : Nat) (v : Value), sx_lk L i = some v → (i, v) ∈ L
  | [], i, v, h => by simp [sx_lk] at h
  | (k, w) :: r, i, v, h => by
    unfold sx_lk at h
    cases hk : Nat.beq k i with
    | true =>
      rw [hk] at h
      simp only [cond_true, Option.some.injEq] at h
      have := Nat.eq_of_beq_eq_true hk
      subst this; subst h
      exact List.mem_cons_self
    | false =>
      rw [hk] at h
      exact List.mem_cons_of_mem _ (sx_lk_mem r i v h)
theorem sx_lk_pt_self : ∀ (L : sx_L) (i : Nat) (v : Value), sx_lk (sx_pt L i v) i = some v
  | [], i, v => by simp [sx_pt, sx_lk]
  | (k, w) :: r, i, v => by
    unfold sx_pt
    cases hk : Nat.beq k i with
    | true => simp [sx_lk]
    | false =>
      simp only [cond_false]
      cases hb : Nat.ble i k with
      | true => simp [sx_lk]
      | false => simp only [cond_false, sx_lk, hk]; exact sx_lk_pt_self r i v
theorem sx_lk_pt_ne : ∀ (L : sx_L) (i : Nat) (v : Value) (t : Nat), t ≠ i → sx_lk (sx_pt L i v) t = sx_lk L t
  | [], i, v, t, h => by
    have : Nat.beq i t = false := by rw [sx_bf]; exact fun e => h e.symm
    simp [sx_pt, sx_lk, this]
  | (k, w) :: r, i, v, t, h => by
    have hit : Nat.beq i t = false := by rw [sx_bf]; exact fun e => h e.symm
    unfold sx_pt
    cases hk : Nat.beq k i with
    | true =>
      have := Nat.eq_of_beq_eq_true hk
      subst this
      simp [sx_lk, hit]
    | false =>
      simp only [cond_false]
      cases hb : Nat.ble i k with
      | true => simp [sx_lk, hit]
      | false => simp only [cond_false, sx_lk]; rw [sx_lk_pt_ne r i v t h]
theorem sx_nl_mem : ∀ (L : sx_L) (i : Nat), sx_nl L i = true → ∀ (k : Nat) (v : Value), (k, v) ∈ L → k + 1 = i → (∀ x, v ≠ .long x) ∧ ∀ x, v ≠ .double x
  | [], i, _, k, v, h, _ => by simp at h
  | (k0, w) :: r, i, hn, k, v, h, e => by
    unfold sx_nl at hn
    cases hk : Nat.beq (k0 + 1) i with
    | true =>
      rw [hk] at hn
      simp only [cond_true] at hn
      have hr : sx_nl r i = true ∧ (∀ x, w ≠ .long x) ∧ ∀ x, w ≠ .double x := by
        cases w <;> simp_all
      rcases List.mem_cons.mp h with q | q
      · cases q; exact hr.2
      · exact sx_nl_mem r i hr.1 k v q e
    | false =>
      rw [hk] at hn
      rcases List.mem_cons.mp h with q | q
      · cases q
        rw [sx_bf] at hk
        exact absurd e hk
      · exact sx_nl_mem r i hn k v q e
def sx_lm (P : sx_P) (L : sx_L) : List (Nat × Value) := L.filterMap (fun q => (sx_lk L q.1).map (fun v => (q.1, sx_tv P v)))
theorem sx_LH.has {P : sx_P} {ls : Array Slot} {n : Nat} {L : sx_L} (h : sx_LH P ls n L) : lv_has ls n (sx_lm P L) := by
  refine ⟨h.1, h.2.1, fun q hq => ?_⟩
  obtain ⟨⟨k, w⟩, -, h2⟩ := List.mem_filterMap.mp hq
  cases hk : sx_lk L k with
  | none => simp [hk] at h2
  | some v =>
    simp [hk] at h2
    subst h2
    exact h.2.2 k v hk
theorem sx_lm_mem {P : sx_P} {L : sx_L} {i : Nat} {v : Value} (h : sx_lk L i = some v) : (i, sx_tv P v) ∈ sx_lm P L :=
  List.mem_filterMap.mpr ⟨(i, v), sx_lk_mem L i v h, by simp [h]⟩
def sx_op (P : sx_P) : Prop := P.2.1 = .null ∨ ∃ t : Nat, P.2.1 = .ref t
theorem sx_tv_cat {P : sx_P} (hO : sx_op P) {v : Value} (h1 : ∀ x, v ≠ .long x) (h2 : ∀ x, v ≠ .double x) : (sx_tv P v).category = 1 := by
  cases v with
  | long x => exact absurd rfl (h1 x)
  | double x => exact absurd rfl (h2 x)
  | float x => rcases hO with h | ⟨t, h⟩ <;> simp [sx_tv, h, Value.category]
  | _ => simp [sx_tv, Value.category]
theorem sx_LH.put {P : sx_P} (hO : sx_op P) {ls' : Array Slot} {n i : Nat} {L : sx_L} {v : Value} (hn : sx_nl L i = true) (h : lv_has ls' n ((i, sx_tv P v) :: (sx_lm P L).filter (fun q => !(q.1 == i) && !(q.1 + 1 == i && q.2.category == 2)))) : sx_LH P ls' n (sx_pt L i v) := by
  refine ⟨h.1, h.2.1, fun t w ht => ?_⟩
  by_cases e : t = i
  · subst e
    rw [sx_lk_pt_self] at ht
    cases ht
    exact h.2.2 _ List.mem_cons_self
  · rw [sx_lk_pt_ne _ _ _ _ e] at ht
    refine h.2.2 (t, sx_tv P w) (List.mem_cons_of_mem _ (List.mem_filter.mpr ⟨sx_lm_mem ht, ?_⟩))
    simp only [Bool.and_eq_true, Bool.not_eq_true', beq_eq_false_iff_ne, ne_eq, Bool.and_eq_false_iff]
    refine ⟨e, ?_⟩
    by_cases e2 : t + 1 = i
    · right
      have q := sx_nl_mem L i hn t w (sx_lk_mem L t w ht) e2
      rw [sx_tv_cat hO q.1 q.2]
      decide
    · left; exact e2
theorem sx_lk_lv : ∀ (ks : List Nat) (L : sx_L) (i : Nat) (v : Value), sx_lk (sx_lv L ks) i = some v → sx_lk L i = some v
  | [], L, i, v, h => by simp [sx_lv, sx_lk] at h
  | k :: r, L, i, v, h => by
    unfold sx_lv at h
    cases hk : sx_lk L k with
    | none => rw [hk] at h; exact sx_lk_lv r L i v h
    | some w =>
      rw [hk] at h
      simp only [sx_lk] at h
      cases hb : Nat.beq k i with
      | true =>
        rw [hb] at h
        have := Nat.eq_of_beq_eq_true hb
        subst this
        rw [hk]; exact h
      | false =>
        rw [hb] at h
        exact sx_lk_lv r L i v h
theorem sx_LH.lv {P : sx_P} {ls : Array Slot} {n : Nat} {L : sx_L} (ks : List Nat) (h : sx_LH P ls n L) : sx_LH P ls n (sx_lv L ks) := ⟨h.1, h.2.1, fun i v hi => h.2.2 i v (sx_lk_lv ks L i v hi)⟩
theorem sx_args_lk (P : sx_P) : ∀ (as : List Value) (b i : Nat) (v : Value), sx_op P → sx_lk (sx_args b as) i = some v → (i, sx_tv P v) ∈ lv_args b (as.map (sx_tv P))
  | [], b, i, v, _, h => by simp [sx_args, sx_lk] at h
  | w :: r, b, i, v, hO, h => by
    unfold sx_args at h
    simp only [sx_lk] at h
    show (i, sx_tv P v) ∈ (b, sx_tv P w) :: lv_args (if (sx_tv P w).category = 2 then b + 2 else b + 1) (r.map (sx_tv P))
    cases hb : Nat.beq b i with
    | true =>
      rw [hb] at h
      have := Nat.eq_of_beq_eq_true hb
      subst this
      simp only [cond_true, Option.some.injEq] at h
      subst h
      exact List.mem_cons_self
    | false =>
      rw [hb] at h
      simp only [cond_false] at h
      refine List.mem_cons_of_mem _ ?_
      have e : sx_w2 w b = (if (sx_tv P w).category = 2 then b + 2 else b + 1) := by
        cases w with
        | float x => rcases hO with q | ⟨t, q⟩ <;> simp [sx_tv, q, Value.category, sx_w2]
        | _ => simp [sx_tv, Value.category, sx_w2]
      rw [← e]
      exact sx_args_lk P r _ i v hO h
/-! ===== the memory in the heap ===== -/
theorem sx_ble_no {a b : Nat} (h : b < a) : Nat.ble a b = false := by
  cases hb : Nat.ble a b with
  | false => rfl
  | true => have := Nat.le_of_ble_eq_true hb; omega
theorem sx_L_all : (List.range 100).all (fun n => Nat.blt n 15 || (Nat.beq (sx_ps (sx_shL n).1) n && sx_gd (sx_shL n).1 && Nat.ble (sx_shL n).1 199 && Nat.ble 15 (sx_shL n).1 && decide (sx_shS (sx_shL n).1 = (sx_shL n).2))) = true := by decide +kernel
theorem sx_P_all : (List.range 200).all (fun a => Nat.blt a 15 || (! sx_gd a) || (Nat.ble 15 (sx_ps a) && Nat.ble (sx_ps a) 99 && Nat.beq (sx_shL (sx_ps a)).1 a)) = true := by decide +kernel
theorem sx_L_at {n : Nat} (h : 15 ≤ n) (h2 : n ≤ 99) : sx_ps (sx_shL n).1 = n ∧ sx_gd (sx_shL n).1 = true ∧ (sx_shL n).1 ≤ 199 ∧ 15 ≤ (sx_shL n).1 ∧ sx_shS (sx_shL n).1 = (sx_shL n).2 := by
  have hs := List.all_eq_true.mp sx_L_all n (List.mem_range.mpr (by omega))
  have h15 : Nat.blt n 15 = false := sx_ble_no (by omega)
  rw [h15, Bool.false_or] at hs
  simp only [Bool.and_eq_true, decide_eq_true_eq] at hs
  obtain ⟨⟨⟨⟨h1, h2⟩, h3⟩, h4⟩, h5⟩ := hs
  exact ⟨Nat.eq_of_beq_eq_true h1, h2, Nat.le_of_ble_eq_true h3, Nat.le_of_ble_eq_true h4, h5⟩
theorem sx_P_at {a : Nat} (h : 15 ≤ a) (h2 : a ≤ 199) (hg : sx_gd a = true) : 15 ≤ sx_ps a ∧ sx_ps a ≤ 99 ∧ (sx_shL (sx_ps a)).1 = a := by
  have hs := List.all_eq_true.mp sx_P_all a (List.mem_range.mpr (by omega))
  have h15 : Nat.blt a 15 = false := sx_ble_no (by omega)
  rw [h15, hg, Bool.not_true, Bool.false_or, Bool.false_or] at hs
  simp only [Bool.and_eq_true] at hs
  obtain ⟨⟨h1, h2⟩, h3⟩ := hs
  exact ⟨Nat.le_of_ble_eq_true h1, Nat.le_of_ble_eq_true h2, Nat.eq_of_beq_eq_true h3⟩
theorem sx_lb_eq {n : Nat} (h : 15 ≤ n) (h2 : n ≤ 99) : sx_lb n = (sx_shL n).1 := by
  unfold sx_lb
  rw [sx_ble_no (show 14 < n by omega), Nat.ble_eq_true_of_le h2]
  rfl
theorem sx_lb_hi {n : Nat} (h : 100 ≤ n) : sx_lb n = n + 100 := by
  unfold sx_lb
  rw [sx_ble_no (show 14 < n by omega), sx_ble_no (show 99 < n by omega)]
  rfl
theorem sx_ps_hi {a : Nat} (h : 200 ≤ a) : sx_ps a = a - 100 := by
  unfold sx_ps
  rw [sx_ble_no (show 14 < a by omega), sx_ble_no (show 199 < a by omega)]
  rfl
theorem sx_ps_lo {a : Nat} (h : a ≤ 14) : sx_ps a = a := by
  unfold sx_ps
  rw [Nat.ble_eq_true_of_le h]
  rfl
theorem sx_gd_hi {a : Nat} (h : 200 ≤ a) : sx_gd a = true := by
  unfold sx_gd
  rw [sx_ble_no (show 15 < a by omega), sx_ble_no (show 18 < a by omega), sx_ble_no (show 96 < a by omega), Nat.ble_eq_true_of_le h]
  rfl
theorem sx_lb_ok {n : Nat} (h : 15 ≤ n) : sx_ps (sx_lb n) = n ∧ sx_gd (sx_lb n) = true ∧ 15 ≤ sx_lb n := by
  rcases Nat.lt_or_ge 99 n with q | q
  · rw [sx_lb_hi q, sx_ps_hi (by omega)]
    exact ⟨by omega, sx_gd_hi (by omega), by omega⟩
  · rw [sx_lb_eq h q]
    have := sx_L_at h q
    exact ⟨this.1, this.2.1, this.2.2.2.1⟩
theorem sx_ps_ok {a : Nat} (h : 15 ≤ a) (hg : sx_gd a = true) : sx_lb (sx_ps a) = a ∧ 15 ≤ sx_ps a := by
  rcases Nat.lt_or_ge 199 a with q | q
  · rw [sx_ps_hi q, sx_lb_hi (by omega)]
    exact ⟨by omega, by omega⟩
  · obtain ⟨h1, h2, h3⟩ := sx_P_at h q hg
    rw [sx_lb_eq h1 h2]
    exact ⟨h3, h1⟩
/-- it has been made -/
def sx_on (G : sx_G) (a : Nat) : Prop := sx_gd a = true ∧ sx_ps a < sx_nx G
theorem sx_ws_at {P : sx_P} {I : sx_I} {G : sx_G} {a : Nat} (h : 15 ≤ a) (h2 : sx_on G a) : (sx_ws P I G)[sx_ps a - 15]? = some (sx_tr P a, sx_ce P (sx_sh G a) (I a) (G.1 a)) := by
  obtain ⟨e1, e2⟩ := sx_ps_ok h h2.1
  have h3 := h2.2
  unfold sx_ws
  rw [List.getElem?_map, List.getElem?_range (by omega)]
  have e : 15 + (sx_ps a - 15) = sx_ps a := by omega
  simp only [Option.map_some, e, e1]
  unfold sx_tr
  rw [if_neg (by omega)]
theorem sx_ws_of {P : sx_P} {I : sx_I} {G : sx_G} {k : Nat} {q : Nat × va_E} (h : (sx_ws P I G)[k]? = some q) : k < sx_nx G - 15 ∧ q = (sx_tr P (sx_lb (15 + k)), sx_ce P (sx_sh G (sx_lb (15 + k))) (I (sx_lb (15 + k))) (G.1 (sx_lb (15 + k)))) := by
  unfold sx_ws at h
  rw [List.getElem?_map] at h
  by_cases hk : k < sx_nx G - 15
  · rw [List.getElem?_range hk] at h
    simp only [Option.map_some, Option.some.injEq] at h
    refine ⟨hk, ?_⟩
    rw [← h]
    obtain ⟨e1, -, e3⟩ := sx_lb_ok (n := 15 + k) (by omega)
    unfold sx_tr
    rw [if_neg (by omega), e1]
    have : 15 + k - 15 = k := by omega
    rw [this]
  · rw [List.getElem?_eq_none (by simp; omega)] at h
    cases h
theorem sx_tr_inj {P : sx_P} {a b : Nat} (ha : 15 ≤ a ∧ sx_gd a = true) (hb : 15 ≤ b ∧ sx_gd b = true) (h : sx_tr P a = sx_tr P b) : a = b := by
  obtain ⟨a1, a2⟩ := ha
  obtain ⟨b1, b2⟩ := hb
  unfold sx_tr at h
  rw [if_neg (by omega), if_neg (by omega)] at h
  obtain ⟨x1, x2⟩ := sx_ps_ok a1 a2
  obtain ⟨y1, y2⟩ := sx_ps_ok b1 b2
  have e : sx_ps a = sx_ps b := by omega
  exact x1.symm.trans ((congrArg sx_lb e).trans y1)
theorem sx_tr_A {P : sx_P} {a : Nat} (ha : 15 ≤ a) : sx_A P (sx_tr P a) := by
  unfold sx_tr sx_A
  rw [if_neg (by omega)]
  omega
theorem sx_ws_D (P : sx_P) (I : sx_I) (G : sx_G) : va_D (sx_A P) (sx_ws P I G) := by
  refine ⟨fun i j p q hi hj e => ?_, fun k q hk => ?_⟩
  · obtain ⟨-, rfl⟩ := sx_ws_of hi
    obtain ⟨-, rfl⟩ := sx_ws_of hj
    have a1 := sx_lb_ok (n := 15 + i) (by omega)
    have b1 := sx_lb_ok (n := 15 + j) (by omega)
    have e1 := sx_tr_inj ⟨a1.2.2, a1.2.1⟩ ⟨b1.2.2, b1.2.1⟩ e
    have e2 := a1.1.symm.trans ((congrArg sx_ps e1).trans b1.1)
    omega
  · obtain ⟨-, rfl⟩ := sx_ws_of hk
    exact sx_tr_A (sx_lb_ok (n := 15 + k) (by omega)).2.2
theorem sx_P_upd {P : sx_P} {I I' : sx_I} {G G' : sx_G} {H H1 : Heap} {a : Nat} (hP : va_P P.2.2.2.2 vwCl (sx_ws P I G) H) (hnx : sx_nx G' = sx_nx G) (hsh : ∀ i, sx_sh G' i = sx_sh G i) (hI : ∀ i, i ≠ a → I' i = I i) (hR : ∀ i, i ≠ a → G'.1 i = G.1 i) (ha : 15 ≤ a ∧ sx_gd a = true)
    (oq : ∀ q, q ≠ sx_tr P a → H1[q]? = H[q]?) (he : va_at P.2.2.2.2 vwCl (sx_tr P a, sx_ce P (sx_sh G a) (I' a) (G'.1 a)) H1) : va_P P.2.2.2.2 vwCl (sx_ws P I' G') H1 := by
  intro k q hk
  obtain ⟨h1, rfl⟩ := sx_ws_of hk
  rw [hnx] at h1
  rw [hsh]
  by_cases e : sx_lb (15 + k) = a
  · rw [e]; exact he
  · rw [hI _ e, hR _ e]
    have a1 := sx_lb_ok (n := 15 + k) (by omega)
    have hk2 := sx_ws_at (P := P) (I := I) (G := G) (a := sx_lb (15 + k)) a1.2.2 ⟨a1.2.1, by rw [a1.1]; omega⟩
    exact (hP _ _ hk2).kept (oq _ (fun z => e (sx_tr_inj ⟨a1.2.2, a1.2.1⟩ ha z)))
theorem sx_P_new {P : sx_P} {I I' : sx_I} {G G' : sx_G} {H H1 : Heap} (hP : va_P P.2.2.2.2 vwCl (sx_ws P I G) H) (h15 : 15 ≤ sx_nx G) (hnx : sx_nx G' = sx_nx G + 1) (hsh : ∀ i, i ≠ sx_lb (sx_nx G) → sx_sh G' i = sx_sh G i) (hI : ∀ i, i ≠ sx_lb (sx_nx G) → I' i = I i) (hR : ∀ i, i ≠ sx_lb (sx_nx G) → G'.1 i = G.1 i)
    (oq : ∀ q, q < H.size → H1[q]? = H[q]?) (he : va_at P.2.2.2.2 vwCl (sx_tr P (sx_lb (sx_nx G)), sx_ce P (sx_sh G' (sx_lb (sx_nx G))) (I' (sx_lb (sx_nx G))) (G'.1 (sx_lb (sx_nx G)))) H1) : va_P P.2.2.2.2 vwCl (sx_ws P I' G') H1 := by
  intro k q hk
  obtain ⟨h1, rfl⟩ := sx_ws_of hk
  by_cases e : 15 + k = sx_nx G
  · rw [e]; exact he
  · have hlt : 15 + k < sx_nx G := by omega
    have a1 := sx_lb_ok (n := 15 + k) (by omega)
    have b1 := sx_lb_ok h15
    have hne : sx_lb (15 + k) ≠ sx_lb (sx_nx G) := fun z => e (a1.1.symm.trans ((congrArg sx_ps z).trans b1.1))
    rw [hsh _ hne, hI _ hne, hR _ hne]
    have hk2 := sx_ws_at (P := P) (I := I) (G := G) (a := sx_lb (15 + k)) a1.2.2 ⟨a1.2.1, by rw [a1.1]; exact hlt⟩
    exact (hP _ _ hk2).kept (oq _ ((hP _ _ hk2).lt))
theorem sx_tr_nx {P : sx_P} {G : sx_G} (h : 15 ≤ sx_nx G) : sx_tr P (sx_lb (sx_nx G)) = P.2.2.1 + (sx_nx G - 15) := by
  have a1 := sx_lb_ok h
  have a2 := a1.2.2
  unfold sx_tr; rw [if_neg (by omega), a1.1]
theorem sx_al_gd {G : sx_G} {a : Nat} (h : sx_al G a = true) : sx_gd a = true := by
  obtain ⟨R, g, ln⟩ := G
  unfold sx_al at h
  cases g with
  | inl n =>
    simp only at h
    cases hg : sx_gd a with
    | true => rfl
    | false => rw [hg] at h; cases h
  | inr m =>
    simp only at h
    cases hg : sx_gd a with
    | true => rfl
    | false => rw [hg] at h; cases h
theorem sx_al_lt {G : sx_G} {a : Nat} (h15 : 15 ≤ sx_nx G) (h : sx_al G a = true) : sx_on G a := by
  have hg := sx_al_gd h
  refine ⟨hg, ?_⟩
  obtain ⟨R, g, ln⟩ := G
  unfold sx_al at h
  unfold sx_nx
  cases g with
  | inl n =>
    simp only at h ⊢
    rw [hg] at h
    exact Nat.le_of_ble_eq_true h
  | inr m =>
    simp only at h ⊢
    rw [hg] at h
    simp only [cond_true] at h
    cases hb : Nat.ble a 199 with
    | true =>
      have hb := Nat.le_of_ble_eq_true hb
      rcases Nat.lt_or_ge a 15 with q | q
      · rw [sx_ps_lo (by omega)]; omega
      · have := (sx_P_at q hb hg).2.1
        omega
    | false =>
      rw [hb] at h
      simp only [cond_false] at h
      have := Nat.le_of_ble_eq_true h
      have hb2 : 199 < a := by
        rcases Nat.lt_or_ge 199 a with q | q
        · exact q
        · rw [Nat.ble_eq_true_of_le q] at hb; cases hb
      rw [sx_ps_hi hb2]
      omega
/-- the read-only ids are no objects of ours -/
theorem sx_sh_ro {G : sx_G} {a : Nat} (h : a < 15) : sx_sh G a = sx_shR G a := by
  unfold sx_sh
  have : Nat.ble a 14 = true := by rw [Nat.ble_eq]; omega
  rw [this]; rfl
theorem sx_ro_cases {a : Nat} (h : a < 14) : (sx_shRT.getD a (1, 0, 0) = (1, 0, 4) ∧ a = 0) ∨ (sx_shRT.getD a (1, 0, 0) = (1, 0, 6) ∧ a = 1) ∨ (∃ i, i < 6 ∧ a = 2 + i ∧ sx_shRT.getD a (1, 0, 0) = (2, i, 0)) ∨ (∃ i, i < 6 ∧ a = 8 + i ∧ sx_shRT.getD a (1, 0, 0) = (1, 1, sx_sl.getD i 0)) := by
  rcases (show a = 0 ∨ a = 1 ∨ a = 2 ∨ a = 3 ∨ a = 4 ∨ a = 5 ∨ a = 6 ∨ a = 7 ∨ a = 8 ∨ a = 9 ∨ a = 10 ∨ a = 11 ∨ a = 12 ∨ a = 13 by omega) with h | h | h | h | h | h | h | h | h | h | h | h | h | h <;> subst h
  · exact Or.inl ⟨rfl, rfl⟩
  · exact Or.inr (Or.inl ⟨rfl, rfl⟩)
  · exact Or.inr (Or.inr (Or.inl ⟨0, by omega, rfl, rfl⟩))
  · exact Or.inr (Or.inr (Or.inl ⟨1, by omega, rfl, rfl⟩))
  · exact Or.inr (Or.inr (Or.inl ⟨2, by omega, rfl, rfl⟩))
  · exact Or.inr (Or.inr (Or.inl ⟨3, by omega, rfl, rfl⟩))
  · exact Or.inr (Or.inr (Or.inl ⟨4, by omega, rfl, rfl⟩))
  · exact Or.inr (Or.inr (Or.inl ⟨5, by omega, rfl, rfl⟩))
  · exact Or.inr (Or.inr (Or.inr ⟨0, by omega, rfl, rfl⟩))
  · exact Or.inr (Or.inr (Or.inr ⟨1, by omega, rfl, rfl⟩))
  · exact Or.inr (Or.inr (Or.inr ⟨2, by omega, rfl, rfl⟩))
  · exact Or.inr (Or.inr (Or.inr ⟨3, by omega, rfl, rfl⟩))
  · exact Or.inr (Or.inr (Or.inr ⟨4, by omega, rfl, rfl⟩))
  · exact Or.inr (Or.inr (Or.inr ⟨5, by omega, rfl, rfl⟩))
theorem sx_sh_obj {G : sx_G} {a ci n : Nat} (h : sx_sh G a = (0, ci, n)) : 15 ≤ a := by
  rcases Nat.lt_or_ge a 15 with q | q
  · rw [sx_sh_ro q] at h
    unfold sx_shR at h
    cases hb : Nat.beq a 14 with
    | true => rw [hb] at h; simp at h
    | false =>
      rw [hb] at h
      rw [sx_bf] at hb
      simp only [cond_false] at h
      rcases sx_ro_cases (a := a) (by omega) with z | z | ⟨i, z⟩ | ⟨i, z⟩
      · rw [z.1] at h; cases h
      · rw [z.1] at h; cases h
      · rw [z.2.2] at h; cases h
      · rw [z.2.2] at h; cases h
  · exact q
/-! ===== the entries of a method's code, and what makes them right ===== -/
theorem sx_Cx.op {j d mcT msT : Nat} {P : sx_P} {p : Program} {R : Room} {s : State} {m : MethodId} {args : Array Value} {meth : Method} {c : Code} (C : sx_Cx j d mcT msT P p R s m args meth c) : sx_op P := C.2.2.2.2.2.2.2.2.2.2.2.2.1.2.2.2.1.2
def sx_okc (j pc npc : Nat) (v : Value) : Prop :=
  ∀ (P : sx_P) (p : Program) (l : Launch) (e : Env) (R : Room) (s : State) (m : MethodId) (args : Array Value) (below : List Frame) (meth : Method) (c : Code) (d mcT msT : Nat) (H : Heap) (locs : List Loc) (cells slots : Nat) (Q : State → Prop) (ls : Array Slot) (rest : List Value),
    sx_Cx j d mcT msT P p R s m args meth c → va_S (sx_A P) s.heap H locs → W p l e R s m args below meth c H locs cells slots Q (F0 m npc ls (sx_tv P v :: rest)) → W p l e R s m args below meth c H locs cells slots Q (F0 m pc ls rest)
theorem sx_k_iconst {j pc : Nat} {n : Int} {x : Int32} (hd : decode (sx_by j) pc = .ok (.iconst n, 1)) (hv : Int32.ofInt n = x) : sx_okc j pc (pc + 1) (.int x) := by
  intro P p l e R s m args below meth c d mcT msT H locs cells slots Q ls rest C hS k
  exact lv_iconst C.1 C.2.1 hd hv k
theorem sx_k_bipush {j pc : Nat} {n : Int} {x : Int32} (hd : decode (sx_by j) pc = .ok (.bipush n, 2)) (hv : (Int8.ofInt n).toInt32 = x) : sx_okc j pc (pc + 2) (.int x) := by
  intro P p l e R s m args below meth c d mcT msT H locs cells slots Q ls rest C hS k
  exact lv_bipush C.1 C.2.1 hd hv k
theorem sx_k_sipush {j pc : Nat} {n : Int} {x : Int32} (hd : decode (sx_by j) pc = .ok (.sipush n, 3)) (hv : (Int16.ofInt n).toInt32 = x) : sx_okc j pc (pc + 3) (.int x) := by
  intro P p l e R s m args below meth c d mcT msT H locs cells slots Q ls rest C hS k
  exact lv_sipush C.1 C.2.1 hd hv k
theorem sx_k_lconst {j pc : Nat} {n : Fin 2} {x : Int64} (hd : decode (sx_by j) pc = .ok (.lconst n, 1)) (hv : Int64.ofNat (n : Nat) = x) : sx_okc j pc (pc + 1) (.long x) := by
  intro P p l e R s m args below meth c d mcT msT H locs cells slots Q ls rest C hS k
  exact lv_lconst C.1 C.2.1 hd hv k
theorem sx_k_null {j pc : Nat} (hd : decode (sx_by j) pc = .ok (.aconst_null, 1)) : sx_okc j pc (pc + 1) .null := by
  intro P p l e R s m args below meth c d mcT msT H locs cells slots Q ls rest C hS k
  exact lv_null C.1 C.2.1 hd k
theorem sx_k_ldc {j pc index : Nat} {x : Int32} (hd : decode (sx_by j) pc = .ok (.ldc index, 2)) (hw : Jvm.Cond.constant (sx_nm j).cls index x ∈ sx_tb) : sx_okc j pc (pc + 2) (.int x) := by
  intro P p l e R s m args below meth c d mcT msT H locs cells slots Q ls rest C hS k
  obtain ⟨hx, hb, hml, hown, hts, -⟩ := C
  exact lv_ldc hx hb hown (hts _ hw) hd k
theorem sx_k_ldcw {j pc index : Nat} {x : Int32} (hd : decode (sx_by j) pc = .ok (.ldc_w index, 3)) (hw : Jvm.Cond.constant (sx_nm j).cls index x ∈ sx_tb) : sx_okc j pc (pc + 3) (.int x) := by
  intro P p l e R s m args below meth c d mcT msT H locs cells slots Q ls rest C hS k
  obtain ⟨hx, hb, hml, hown, hts, -⟩ := C
  exact lv_ldcw hx hb hown (hts _ hw) hd k
theorem sx_k_ldc2 {j pc index : Nat} {x : Int64} (hd : decode (sx_by j) pc = .ok (.ldc2_w index, 3)) (hw : Jvm.Cond.constantLong (sx_nm j).cls index x ∈ sx_tb) : sx_okc j pc (pc + 3) (.long x) := by
  intro P p l e R s m args below meth c d mcT msT H locs cells slots Q ls rest C hS k
  obtain ⟨hx, hb, hml, hown, hts, -⟩ := C
  exact lv_ldc2 hx hb hown (hts _ hw) hd k
theorem sx_tv_ro {P : sx_P} {a : Nat} (h : a < 15) : sx_tv P (.ref a) = .ref (P.1 a) := by
  show Value.ref (sx_tr P a) = _
  unfold sx_tr
  rw [if_pos h]
theorem sx_k_str {j pc i : Nat} (hi : i < 6) (hd : decode (sx_by j) pc = .ok (.ldc (sx_sk i), 2)) (ho : (sx_nm j).cls = "StrawGarrison$Reader") : sx_okc j pc (pc + 2) (.ref (2 + i)) := by
  intro P p l e R s m args below meth c d mcT msT H locs cells slots Q ls rest C hS k
  obtain ⟨hx, hb, hml, hown, hts, -, -, -, -, -, -, -, hRO, -⟩ := C
  rw [ho] at hown
  rw [sx_tv_ro (by omega)] at k
  exact va_ldcS hx hb hown (hRO.2.2.2.2.1 i hi) hd k
theorem sx_k_most {j pc index : Nat} (hd : decode (sx_by j) pc = .ok (.getstatic index, 3)) (hw : Jvm.Cond.fieldLink (sx_nm j).cls index "StrawGarrison" "MOST_OF_RULE" "[I" ∈ sx_tb) : sx_okc j pc (pc + 3) (.ref 0) := by
  intro P p l e R s m args below meth c d mcT msT H locs cells slots Q ls rest C hS k
  obtain ⟨hx, hb, hml, hown, hts, -, -, -, -, -, -, -, hRO, -⟩ := C
  rw [sx_tv_ro (by omega)] at k
  exact va_gets hx hb hRO.1.1 hS hown (hts _ hw) (fun _ h9 => h9) hd k
theorem sx_k_above {j pc index : Nat} (hd : decode (sx_by j) pc = .ok (.getstatic index, 3)) (hw : Jvm.Cond.fieldLink (sx_nm j).cls index "StrawGarrison$Kinds" "ABOVE" "[I" ∈ sx_tb) : sx_okc j pc (pc + 3) (.ref 1) := by
  intro P p l e R s m args below meth c d mcT msT H locs cells slots Q ls rest C hS k
  obtain ⟨hx, hb, hml, hown, hts, -, -, -, -, -, -, -, hRO, -⟩ := C
  rw [sx_tv_ro (by omega)] at k
  exact va_gets hx hb hRO.2.1.1 hS hown (hts _ hw) (fun _ h9 => h9) hd k
theorem sx_k_compact {j pc index : Nat} (hd : decode (sx_by j) pc = .ok (.getstatic index, 3)) (hw : Jvm.Cond.fieldLink (sx_nm j).cls index "java/lang/String" "COMPACT_STRINGS" "Z" ∈ sx_tb) : sx_okc j pc (pc + 3) (.int 1) := by
  intro P p l e R s m args below meth c d mcT msT H locs cells slots Q ls rest C hS k
  obtain ⟨hx, hb, hml, hown, hts, -, -, -, -, -, -, -, hRO, -⟩ := C
  exact va_gets hx hb hRO.2.2.1 hS hown (hts _ hw) (fun _ h9 => h9) hd k
theorem sx_k_opaque {j pc index : Nat} (hd : decode (sx_by j) pc = .ok (.getstatic index, 3)) (hw : Jvm.Cond.fieldLink (sx_nm j).cls index "jdk/internal/util/Preconditions" "SIOOBE_FORMATTER" "Ljava/util/function/BiFunction;" ∈ sx_tb) : sx_okc j pc (pc + 3) (.float 0) := by
  intro P p l e R s m args below meth c d mcT msT H locs cells slots Q ls rest C hS k
  obtain ⟨hx, hb, hml, hown, hts, -, -, -, -, -, -, -, hRO, -⟩ := C
  exact va_gets hx hb hRO.2.2.2.1.1 hS hown (hts _ hw) (fun _ h9 => h9) hd k
def sx_hd : List Nat → Nat → Prop
  | t :: _, x => t = x
  | [], _ => False
/-- the targets of a tableswitch, of a lookupswitch -/
def sx_tgs (pc : Nat) : List Nat → List Int → Prop
  | t :: ts, o :: os => (pc : Int) + o = (t : Int) ∧ sx_tgs pc ts os
  | [], [] => True
  | _, _ => False
def sx_tgl (pc : Nat) : List Nat → List (Int × Int) → Prop
  | k :: t :: ts, o :: os => o.1 = (k : Int) ∧ k < 2 ^ 31 ∧ (pc : Int) + o.2 = (t : Int) ∧ sx_tgl pc ts os
  | [], [] => True
  | _, _ => False
/-- a static call, the call of a constructor, a virtual call: the words, whoever stands there -/
def sx_lkS (own : String) (idx t : Nat) : Prop := (Jvm.Cond.methodLink own idx (sx_nm t) ∈ sx_tb ∨ (own, idx, sx_nm t, "StrawGarrison") ∈ sx_nest) ∧ Jvm.Cond.static (sx_nm t) ∈ sx_tb ∧ Jvm.Cond.initialized (sx_nm t).cls ∈ sx_tb ∧ Jvm.Cond.code (sx_nm t) (sx_by t) (sx_ml t) (sx_rt t) ∈ sx_tb ∧ sx_ml t ≤ 29
def sx_lkI (own : String) (idx t : Nat) : Prop := (Jvm.Cond.methodLink own idx (sx_nm t) ∈ sx_tb ∨ (own, idx, sx_nm t, "StrawGarrison") ∈ sx_nest) ∧ Jvm.Cond.instanceMethod (sx_nm t) ∈ sx_tb ∧ Jvm.Cond.initialized (sx_nm t).cls ∈ sx_tb ∧ Jvm.Cond.code (sx_nm t) (sx_by t) (sx_ml t) (sx_rt t) ∈ sx_tb ∧ sx_ml t ≤ 29 ∧ (sx_nm t).name = "<init>" ∧ sx_rt t = none
def sx_lkV (own : String) (idx t : Nat) : Prop := Jvm.Cond.methodLink own idx (sx_nm t) ∈ sx_tb ∧ Jvm.Cond.instanceMethod (sx_nm t) ∈ sx_tb ∧ Jvm.Cond.initialized (sx_nm t).cls ∈ sx_tb ∧ Jvm.Cond.code (sx_nm t) (sx_by t) (sx_ml t) (sx_rt t) ∈ sx_tb ∧ sx_ml t ≤ 29 ∧ Jvm.Cond.selects (sx_nm t).cls (sx_nm t) (sx_nm t) ∈ sx_tb
def sx_mh (t n : Nat) : Prop := (sx_nm t).cls ≠ "java/lang/invoke/MethodHandle" ∧ (sx_nm t).cls ≠ "java/lang/invoke/VarHandle" ∧ (parseMethodDescriptor (sx_nm t).desc).map (fun d => d.parameters.length) = some n
def sx_ok (j : Nat) (op : Instr) (pc npc : Nat) (ax : List Nat) (cv : Value) : Prop := match op with
  | .nop => sx_okc j pc npc cv
  | .iload i => (decode (sx_by j) pc = .ok (.iload i, 2) ∧ npc = pc + 2) ∨ (∃ k : Fin 4, decode (sx_by j) pc = .ok (.iload_n k, 1) ∧ (k : Nat) = i ∧ npc = pc + 1)
  | .lload i => (decode (sx_by j) pc = .ok (.lload i, 2) ∧ npc = pc + 2) ∨ (∃ k : Fin 4, decode (sx_by j) pc = .ok (.lload_n k, 1) ∧ (k : Nat) = i ∧ npc = pc + 1)
  | .aload i => (decode (sx_by j) pc = .ok (.aload i, 2) ∧ npc = pc + 2) ∨ (∃ k : Fin 4, decode (sx_by j) pc = .ok (.aload_n k, 1) ∧ (k : Nat) = i ∧ npc = pc + 1)
  | .istore i => i < sx_ml j ∧ ((decode (sx_by j) pc = .ok (.istore i, 2) ∧ npc = pc + 2) ∨ (∃ k : Fin 4, decode (sx_by j) pc = .ok (.istore_n k, 1) ∧ (k : Nat) = i ∧ npc = pc + 1))
  | .astore i => i < sx_ml j ∧ ((decode (sx_by j) pc = .ok (.astore i, 2) ∧ npc = pc + 2) ∨ (∃ k : Fin 4, decode (sx_by j) pc = .ok (.astore_n k, 1) ∧ (k : Nat) = i ∧ npc = pc + 1))
  | .iinc i n => i < sx_ml j ∧ decode (sx_by j) pc = .ok (.iinc i n, 3) ∧ npc = pc + 3 ∧ cv = .int (Int32.ofInt n)
  | .ifCond c o => decode (sx_by j) pc = .ok (.ifCond c o, 3) ∧ npc = pc + 3 ∧ ∀ t r, ax = t :: r → (pc : Int) + o = (t : Int)
  | .if_icmp c o => decode (sx_by j) pc = .ok (.if_icmp c o, 3) ∧ npc = pc + 3 ∧ ∀ t r, ax = t :: r → (pc : Int) + o = (t : Int)
  | .goto o => decode (sx_by j) pc = .ok (.goto o, 3) ∧ ∀ t r, ax = t :: r → (pc : Int) + o = (t : Int)
  | .ifnonnull o => decode (sx_by j) pc = .ok (.ifnonnull o, 3) ∧ npc = pc + 3 ∧ ∀ t r, ax = t :: r → (pc : Int) + o = (t : Int)
  | .tableswitch df lo hi os => (∃ len, decode (sx_by j) pc = .ok (.tableswitch df lo hi os, len)) ∧ ∀ a t r, ax = a :: t :: r → lo = (a : Int) ∧ hi + 1 = (a : Int) + (os.size : Int) ∧ a + os.size < 2 ^ 31 ∧ (pc : Int) + df = (t : Int) ∧ sx_tgs pc r os.toList
  | .lookupswitch df ps => (∃ len, decode (sx_by j) pc = .ok (.lookupswitch df ps, len)) ∧ (ps.toList.zip (ps.toList.drop 1)).all (fun (a, next) => a.1 < next.1) = true ∧ ∀ t r, ax = t :: r → (pc : Int) + df = (t : Int) ∧ sx_tgl pc r ps.toList
  | .getfield i => decode (sx_by j) pc = .ok (.getfield i, 3) ∧ npc = pc + 3 ∧ ∀ ci k q r, ax = ci :: k :: q :: r → (ci < 8 → ∃ w : vw_C, vwCl[ci]? = some w ∧ k < w.2.2 ∧ (∀ x ∈ u_ws w.1 w.2.1 w.2.2, x ∈ sx_tb) ∧ Jvm.Cond.fieldLink (sx_nm j).cls i (w.2.1 k).1 (w.2.1 k).2.1 (w.2.1 k).2.2.1 ∈ sx_tb ∧ (q = 1 ↔ sx_isr ci k = true)) ∧
      (ci = 100 → (q = 1 → Jvm.Cond.fieldLink (sx_nm j).cls i "java/lang/String" "value" "[B" ∈ sx_tb) ∧ (q ≠ 1 → Jvm.Cond.fieldLink (sx_nm j).cls i "java/lang/String" "coder" "B" ∈ sx_tb))
  | .putfield i => decode (sx_by j) pc = .ok (.putfield i, 3) ∧ npc = pc + 3 ∧ ∀ ci k q r, ax = ci :: k :: q :: r → ∃ (w : vw_C) (ty0 : Nat → FieldType), vwCl[ci]? = some w ∧ k < w.2.2 ∧ (∀ x ∈ u_ws w.1 w.2.1 w.2.2, x ∈ sx_tb) ∧ Jvm.Cond.fieldLink (sx_nm j).cls i (w.2.1 k).1 (w.2.1 k).2.1 (w.2.1 k).2.2.1 ∈ sx_tb ∧ (q = 1 ↔ sx_isr ci k = true) ∧
      (∀ k, k < w.2.2 → parseFieldDescriptor (w.2.1 k).2.2.1 = some (ty0 k)) ∧ (∀ a, a < w.2.2 → ∀ b, b < w.2.2 → a ≠ b → (w.2.1 a).2.1 ≠ (w.2.1 b).2.1) ∧ ((w.2.1 k).2.2.2 = false ∨ ((w.2.1 k).2.2.2 = true ∧ sx_ct j ∧ (w.2.1 k).1 = (sx_nm j).cls)) ∧
      (q = 0 → ty0 k = .int) ∧ (q = 2 → ty0 k = .boolean) ∧ (q = 1 → (∃ n, ty0 k = .object n) ∨ ∃ t, ty0 k = .array t)
  | .new i => decode (sx_by j) pc = .ok (.new i, 3) ∧ npc = pc + 3 ∧ ∀ ci N r, ax = ci :: N :: r → ∃ (w : vw_C) (ty0 : Nat → FieldType), vwCl[ci]? = some w ∧ N = w.2.2 ∧ (∀ x ∈ u_ws w.1 w.2.1 w.2.2, x ∈ sx_tb) ∧ (∀ k, k < w.2.2 → parseFieldDescriptor (w.2.1 k).2.2.1 = some (ty0 k)) ∧
      Jvm.Cond.classLink (sx_nm j).cls i w.1 ∈ sx_tb ∧ Jvm.Cond.instantiable w.1 w.2.2 ∈ sx_tb ∧ Jvm.Cond.initialized w.1 ∈ sx_tb ∧ ∀ k, k < w.2.2 → if sx_isr ci k = true then defaultValue (ty0 k) = .null else defaultValue (ty0 k) = .int 0
  | .newarray _ => ∃ at0, decode (sx_by j) pc = .ok (.newarray at0, 2) ∧ npc = pc + 2 ∧ ∀ t N r, ax = t :: N :: r → N < 65536 ∧ ((t = 0 ∧ at0 = .int) ∨ (t = 1 ∧ at0 = .byte) ∨ (t = 2 ∧ at0 = .boolean)) ∧ Jvm.Cond.arrayClass (newarray.typeOf at0) ∈ sx_tb
  | .anewarray i => decode (sx_by j) pc = .ok (.anewarray i, 3) ∧ npc = pc + 3 ∧ ∀ t N r, ax = t :: N :: r → N < 65536 ∧ ((t = 3 ∧ Jvm.Cond.classLink (sx_nm j).cls i "StrawGarrison$Text" ∈ sx_tb) ∨ (t = 4 ∧ Jvm.Cond.classLink (sx_nm j).cls i "StrawGarrison$Sheet" ∈ sx_tb) ∨ (t = 5 ∧ Jvm.Cond.classLink (sx_nm j).cls i "StrawGarrison$Slot" ∈ sx_tb))
  | .ret i => decode (sx_by j) pc = .ok (.invokestatic i, 3) ∧ npc = pc + 3 ∧ Jvm.Cond.methodLink (sx_nm j).cls i arraycopyName ∈ sx_tb ∧ Jvm.Cond.native arraycopyName ∈ sx_tb ∧ Jvm.Cond.static arraycopyName ∈ sx_tb ∧ Jvm.Cond.initialized "java/lang/System" ∈ sx_tb
  | .jsr _ => ∃ i : Nat, decode (sx_by j) pc = .ok (.invokespecial i, 3) ∧ npc = pc + 3 ∧ Jvm.Cond.methodLink (sx_nm j).cls i objectInit ∈ sx_tb ∧ Jvm.Cond.instanceMethod objectInit ∈ sx_tb ∧ Jvm.Cond.code objectInit ⟨#[0xb1]⟩ 1 none ∈ sx_tb
  | .invokestatic i => decode (sx_by j) pc = .ok (.invokestatic i, 3) ∧ npc = pc + 3 ∧ ∀ t n c1 c2 r, ax = t :: n :: c1 :: c2 :: r → c1 = sx_mc t ∧ c2 = sx_ms t ∧ sx_lkS (sx_nm j).cls i t ∧ sx_mh t n
  | .invokespecial i => decode (sx_by j) pc = .ok (.invokespecial i, 3) ∧ npc = pc + 3 ∧ ∀ t n c1 c2 r, ax = t :: n :: c1 :: c2 :: r → c1 = sx_mc t ∧ c2 = sx_ms t ∧ sx_lkI (sx_nm j).cls i t ∧ sx_mh t (n - 1)
  | .invokevirtual i => decode (sx_by j) pc = .ok (.invokevirtual i, 3) ∧ npc = pc + 3 ∧ ∀ t n c1 c2 ci r, ax = t :: n :: c1 :: c2 :: ci :: r → c1 = sx_mc t ∧ c2 = sx_ms t ∧ sx_lkV (sx_nm j).cls i t ∧ sx_mh t (n - 1) ∧ (ci < 8 → ∃ w : vw_C, vwCl[ci]? = some w ∧ w.1 = (sx_nm t).cls) ∧ (ci = 100 → (sx_nm t).cls = "java/lang/String")
  | .ireturn => decode (sx_by j) pc = .ok (.ireturn, 1) ∧ ∀ t r, ax = t :: r → (t = 0 → sx_rt j = some .int) ∧ (t = 1 → sx_rt j = some .boolean) ∧ (t = 2 → sx_rt j = some .byte) ∧ (2 < t → sx_rt j = some .char)
  | .areturn => decode (sx_by j) pc = .ok (.areturn, 1) ∧ ∃ rt, sx_rt j = some rt ∧ ((∃ n, rt = .object n) ∨ ∃ t, rt = .array t)
  | .return_ => decode (sx_by j) pc = .ok (.return_, 1) ∧ sx_rt j = none
  | .monitorenter => True
  | .athrow => True
  | o => decode (sx_by j) pc = .ok (o, 1) ∧ npc = pc + 1
