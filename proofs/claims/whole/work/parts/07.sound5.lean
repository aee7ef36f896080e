/-! ===== new cells, copying, Object.<init> ===== -/
theorem sx_cat2 (v : Value) : v.category ≤ 2 := by cases v <;> simp [Value.category]
theorem sx_catsum (P : sx_P) : ∀ r : List Value, ((r.map (sx_tv P)).map fun v => v.category).sum ≤ 2 * r.length
  | [] => by simp
  | v :: r => by
    have h1 := sx_cat2 (sx_tv P v)
    have h2 := sx_catsum P r
    simp only [List.map_cons, List.sum_cons, List.length_cons]
    omega
section
variable {j d mc ms : Nat} {K : sx_K} {pc npc : Nat} {L : sx_L} {I : sx_I} {G : sx_G} {cs cd : List sx_E} {f : sx_T} {ax : List Nat} {cv : Value} {st : List Value}
theorem sx_s_jsr {o : Int} (N : ∀ mc ms L st I G, f mc ms cs L st I G → sx_V j (d + 1) mc ms K npc L st I G) (ok : sx_ok j (.jsr o) pc npc ax cv) (h : sx_step j d K cd f (.jsr o) pc ax cv cs mc ms L st I G) : sx_V j (d + 1) mc ms K pc L st I G := by
  obtain ⟨i, hd, rfl, h1, h2, h3⟩ := ok
  simp only [sx_step, sx_stepG] at h
  split at h
  · rename_i a r
    split at h
    · rename_i hr4
      have kN := N _ _ _ _ _ _ h
      intro P p l e R s m args below meth c mcT msT H locs cells slots ls C g1 g2 hS hR hl
      have k2 := kN P p l e R s m args below meth c mcT msT H locs cells slots ls C g1 g2 hS hR hl
      obtain ⟨hx, hb, hml, hown, hts, -, -, -, hfr, hlo, -⟩ := C
      refine W.objInit hx hb hown (hts _ h1) (hts _ h2) (hts _ h3) rfl (by rw [hml]; exact hl.1) rfl hd (by omega) ?_ k2
      have := sx_catsum P r
      have := sx_ble_t hr4
      show 2 * 0 + _ + 12 ≤ _
      omega
    · exact h.elim
  · exact h.elim
theorem sx_clampnn {n : Nat} (h : n < 2 ^ 31) : (nI n).toInt = ((nI n).toNatClampNeg : Int) := by rw [nI_toInt h, nI_clamp h]
theorem sx_s_ret {o : Nat} (N : ∀ mc ms L st I G, f mc ms cs L st I G → sx_V j (d + 1) mc ms K npc L st I G) (ok : sx_ok j (.ret o) pc npc ax cv) (h : sx_step j d K cd f (.ret o) pc ax cv cs mc ms L st I G) : sx_V j (d + 1) mc ms K pc L st I G := by
  obtain ⟨hd, rfl, w1, w2, w3, w4⟩ := ok
  simp only [sx_step, sx_stepG] at h
  split at h
  · split at h
    · rename_i n dp b sp a r _ _ _ _ _ _ na nb hala hsha halb hshb h14 hr4
      obtain ⟨kn, ks, kd, ⟨rfl, rfl, rfl, hks, hkd⟩, ha15, h⟩ := h
      have kN := N _ _ _ _ _ _ h
      intro P p l e R s m args below meth c mcT msT H locs cells slots ls C g1 g2 hS hR hl
      have hb15 := sx_ble_f h14
      have hna := (sx_sh_arr hR.2.2.2.2.1 hsha).2
      have hnb := (sx_sh_arr hR.2.2.2.2.1 hshb).2
      have hwa := sx_ws_at (P := P) (I := I) (G := G) ha15 (sx_al_lt hR.2.2.2.1 hala)
      have hwb := sx_ws_at (P := P) (I := I) (G := G) hb15 (sx_al_lt hR.2.2.2.1 halb)
      rw [hsha, sx_ce_arr (by omega)] at hwa
      rw [hshb, sx_ce_arr (by omega)] at hwb
      have hty := sx_tys_at (P := P) (t := 0) (by omega)
      have hca : H[sx_tr P a]? = some (vp_cell (P.2.2.2.1 0) (na, .inl (I a))) := hR.2.1 _ _ hwa
      have hcb : H[sx_tr P b]? = some (vp_cell (P.2.2.2.1 0) (nb, .inl (I b))) := hR.2.1 _ _ hwb
      obtain ⟨-, k0, hk0, cm0, hkk0⟩ := (hR.1.2 _ _ hty).1 na (fun j => .int (I a j))
      obtain ⟨-, k1, hk1, cm1, hkk1⟩ := (hR.1.2 _ _ hty).1 nb (fun j => .int (I b j))
      intro T hT X
      obtain ⟨hx, hb, hml, hown, hts, -, -, -, hfr, hlo, -⟩ := id C
      obtain ⟨vm', X', step⟩ := X.arraycopy hx hown (hts _ w1) (hts _ w2) (hts _ w3) (hts _ w4) (src := sx_tr P a) (dst := sx_tr P b) (cs := vp_cell (P.2.2.2.1 0) (na, .inl (I a))) (cd := vp_cell (P.2.2.2.1 0) (nb, .inl (I b))) (srcPos := nI ks) (destPos := nI kd) (n := nI kn) (by rw [hT]; exact hca) (by rw [hT]; exact hcb)
        (fun _ h => by cases h) (fun _ h => by cases h) (fun h => by cases h) (fun h => by cases h) hk0 hk1 hkk0 hkk1 (by simp [sx_ety]) (nI_pos (by omega)) (nI_pos (by omega)) (nI_pos (by omega))
        (by rw [sx_clampnn (by omega), sx_clampnn (by omega), nI_clamp (by omega), nI_clamp (by omega)]; show ¬ _ > ((arrV _ na (fun j => .int (I a j))).slots.size : Int); rw [arrV_size]; omega)
        (by rw [sx_clampnn (by omega), sx_clampnn (by omega), nI_clamp (by omega), nI_clamp (by omega)]; show ¬ _ > ((arrV _ nb (fun j => .int (I b j))).slots.size : Int); rw [arrV_size]; omega)
        (fun vm₁ _ i hi => by
          rw [nI_clamp (by omega)] at hi
          have e : (arrV (P.2.2.2.1 0) na (fun j => Value.int (I a j))).slots.getD ((nI ks).toNatClampNeg + i) .null = .int (I a ((nI ks).toNatClampNeg + i)) := by
            rw [Array.getD_eq_getD_getElem?, arrV_read _ _ (by rw [nI_clamp (by omega)]; omega)]
            rfl
          refine ⟨?_, ?_⟩
          · show fits .int ((arrV (P.2.2.2.1 0) na (fun j => Value.int (I a j))).slots.getD ((nI ks).toNatClampNeg + i) .null) = true
            rw [e]; rfl
          · show (T.setVm vm₁).takes cm1 ((arrV (P.2.2.2.1 0) na (fun j => Value.int (I a j))).slots.getD ((nI ks).toNatClampNeg + i) .null)
            rw [e]; exact trivial)
        (g := F0 m pc ls (.int (nI kn) :: .int (nI kd) :: .ref (sx_tr P b) :: .int (nI ks) :: .ref (sx_tr P a) :: r.map (sx_tv P))) rfl (by rw [hml]; exact hl.1) (rest := r.map (sx_tv P)) rfl (by rw [hb]; exact hd) (by omega)
        (by
          have := sx_catsum P r
          have := sx_ble_t hr4
          have hnf : nativeFrameWords "java/lang/System" "arraycopy" 5 ≤ 20 := by decide +kernel
          show 2 * 0 + _ + (nativeFrameWords "java/lang/System" "arraycopy" 5 + 11) ≤ _
          omega)
      have e1 : copied (vp_cell (P.2.2.2.1 0) (na, .inl (I a))) (vp_cell (P.2.2.2.1 0) (nb, .inl (I b))) (nI ks) (nI kd) (nI kn) = vp_cell (P.2.2.2.1 0) (nb, .inl (va_cpy (I a) (I b) ks kd kn)) := by
        have : copied (vp_cell (P.2.2.2.1 0) (na, .inl (I a))) (vp_cell (P.2.2.2.1 0) (nb, .inl (I b))) (nI ks) (nI kd) (nI kn) = vp_cell (P.2.2.2.1 0) (nb, .inl (va_cpy (I a) (I b) (nI ks).toNatClampNeg (nI kd).toNatClampNeg (nI kn).toNatClampNeg)) := va_copied (fun z => Value.int z) (P.2.2.2.1 0) (P.2.2.2.1 0) (I a) (I b) (by rw [nI_clamp (by omega), nI_clamp (by omega)]; omega)
        rw [nI_clamp (by omega), nI_clamp (by omega), nI_clamp (by omega)] at this
        exact this
      rw [e1] at X' step
      have hlb : sx_tr P b < H.size := (Array.getElem?_eq_some_iff.mp hcb).1
      have hheap : ((T.setVm vm').setCell (sx_tr P b) (vp_cell (P.2.2.2.1 0) (nb, .inl (va_cpy (I a) (I b) ks kd kn)))).heap = H.setIfInBounds (sx_tr P b) (vp_cell (P.2.2.2.1 0) (nb, .inl (va_cpy (I a) (I b) ks kd kn))) := by rw [← hT]; rfl
      have oq : ∀ q : Nat, q ≠ sx_tr P b → (H.setIfInBounds (sx_tr P b) (vp_cell (P.2.2.2.1 0) (nb, .inl (va_cpy (I a) (I b) ks kd kn))))[q]? = H[q]? := fun q hq => by simp [Array.getElem?_setIfInBounds, Ne.symm hq]
      have hnew : (H.setIfInBounds (sx_tr P b) (vp_cell (P.2.2.2.1 0) (nb, .inl (va_cpy (I a) (I b) ks kd kn))))[sx_tr P b]? = some (vp_cell (P.2.2.2.1 0) (nb, .inl (va_cpy (I a) (I b) ks kd kn))) := by simp [Array.getElem?_setIfInBounds, hlb]
      obtain ⟨t, a1, b1⟩ := kN P p l e R s m args below meth c mcT msT _ _ cells slots ls C g1 g2
        ⟨by simp; exact hS.1, fun q q1 q2 => by
          rw [oq q (fun e => q2 (by rw [e]; exact sx_tr_A hb15))]
          exact hS.2.1 q q1 q2, fun q hq => by
          rcases List.mem_append.mp hq with h | h
          · exact hS.2.2 q h
          · obtain ⟨z, -, hz⟩ := List.mem_map.mp h
            rw [← hz]
            exact sx_tr_A hb15⟩
        (sx_Rel_upd hR rfl (fun i hi => sx_up_ne hi) (fun _ _ => rfl) ⟨hb15, sx_al_gd halb⟩ (by simp) oq (by
          rw [hshb, sx_ce_arr (by omega), sx_up_eq]
          exact hnew)) hl _ hheap X'
      exact ⟨t, step t a1, b1⟩
    · exact h.elim
  · exact h.elim
theorem sx_sh_ln {G G' : sx_G} (hg : G'.2.2 = G.2.2) (i : Nat) : sx_sh G' i = sx_sh G i := by
  unfold sx_sh sx_shR
  rw [hg]
/-- behind a new cell -/
theorem sx_Rel_new {P : sx_P} {I I' : sx_I} {G G' : sx_G} {s : State} {H H1 : Heap} (hR : sx_Rel P I G s H) (hnx : sx_nx G' = sx_nx G + 1) (hsh : ∀ i, i ≠ sx_lb (sx_nx G) → sx_sh G' i = sx_sh G i) (hln : ∀ a, G'.2.2 a < 2 ^ 31) (h14 : G'.2.2 14 = G.2.2 14)
    (hI : ∀ i, i ≠ sx_lb (sx_nx G) → I' i = I i) (hRf : ∀ i, i ≠ sx_lb (sx_nx G) → G'.1 i = G.1 i) (z : H1.size = H.size + 1) (oq : ∀ q, q < H.size → H1[q]? = H[q]?)
    (he : va_at P.2.2.2.2 vwCl (sx_tr P (sx_lb (sx_nx G)), sx_ce P (sx_sh G' (sx_lb (sx_nx G))) (I' (sx_lb (sx_nx G))) (G'.1 (sx_lb (sx_nx G)))) H1) : sx_Rel P I' G' s H1 := by
  have h15 := hR.2.2.2.1
  refine ⟨hR.1, sx_P_new hR.2.1 h15 hnx hsh hI hRf oq he, by rw [z, hnx, hR.2.2.1]; omega, by omega, hln, ?_⟩
  have e14 : I' 14 = I 14 := hI 14 (by have := (sx_lb_ok h15).2.2; omega)
  rw [h14, e14]
  exact hR.2.2.2.2.2.kept (fun q hq _ => oq q hq)
theorem sx_S_new {A : Nat → Prop} {H0 H H1 : Heap} {locs : List Loc} (hS : va_S A H0 H locs) (z : H1.size = H.size + 1) (oq : ∀ q, q < H.size → H1[q]? = H[q]?) : va_S A H0 H1 locs :=
  ⟨Nat.le_trans hS.1 (by omega), fun q q1 q2 => (oq q (Nat.lt_of_lt_of_le q1 hS.1)).trans (hS.2.1 q q1 q2), hS.2.2⟩
theorem sx_newobj {i ci N0 n : Nat} {r : List Value} {G' : sx_G} {w : vw_C} {ty0 : Nat → FieldType} (hd : decode (sx_by j) pc = .ok (.new i, 3)) (hw : vwCl[ci]? = some w) (hN : N0 = w.2.2) (hin : ∀ x ∈ u_ws w.1 w.2.1 w.2.2, x ∈ sx_tb) (hty : ∀ k, k < w.2.2 → parseFieldDescriptor (w.2.1 k).2.2.1 = some (ty0 k))
    (h1 : Jvm.Cond.classLink (sx_nm j).cls i w.1 ∈ sx_tb) (h2 : Jvm.Cond.instantiable w.1 w.2.2 ∈ sx_tb) (h3 : Jvm.Cond.initialized w.1 ∈ sx_tb) (hdef : ∀ k, k < w.2.2 → if sx_isr ci k = true then defaultValue (ty0 k) = .null else defaultValue (ty0 k) = .int 0)
    (hmc : 1 ≤ mc) (hms : N0 ≤ ms) (hn : n = sx_lb (sx_nx G)) (hsh : sx_sh G n = (0, ci, N0)) (hg1 : G'.1 = sx_upR G.1 n (fun _ => none)) (hnx : sx_nx G' = sx_nx G + 1) (hg2 : G'.2.2 = G.2.2)
    (kN : sx_V j (d + 1) (mc - 1) (ms - N0) K (pc + 3) L (.ref n :: r) (sx_up I n (fun _ => 0)) G') : sx_V j (d + 1) mc ms K pc L r I G := by
  subst hn
  intro P p l e R s m args below meth c mcT msT H locs cells slots ls C g1 g2 hS hR hl
  obtain ⟨hx, hb, hml, hown, hts, -, -, -, hfr, hlo, hce, hsl, -⟩ := id C
  obtain ⟨wC, wT, wN⟩ := w
  simp only at hN hin hty h1 h2 h3 hdef
  subst hN
  have hKn := hR.1.1 ci _ hw
  have h15 := hR.2.2.2.1
  refine W.newcK hx hb hown (hts _ h1) (hts _ h2) (hts _ h3) rfl hd (by omega) (by omega) hKn.2.1 rfl fun H1 kC hkC e1 z1 o1 => ?_
  have hadr : sx_tr P (sx_lb (sx_nx G)) = H.size := by rw [sx_tr_nx h15, hR.2.2.1]
  have kk := kN P p l e R s m args below meth c mcT msT H1 locs (cells + 1) (slots + N0) ls C (by omega) (by omega) (sx_S_new hS z1 o1) (sx_Rel_new hR hnx (fun i _ => sx_sh_ln hg2 i) (by rw [hg2]; exact hR.2.2.2.2.1) (by rw [hg2]) (fun i hi => sx_up_ne hi) (fun i hi => by rw [hg1]; exact sx_upR_ne hi) z1 o1 ?_) hl
  · have e : sx_tv P (.ref (sx_lb (sx_nx G))) = .ref H.size := by show Value.ref _ = _; rw [hadr]
    rw [List.map_cons, e] at kk
    exact kk
  · rw [sx_sh_ln hg2, hsh, hadr]
    refine ⟨_, hw, (u_born ty0 hts hin hKn hkC e1 hty).to (fun k hk => ?_)⟩
    have := hdef k hk
    unfold vp_V
    rw [List.getD_eq_getElem?_getD, sx_fs_at hk, hg1, sx_upR_eq, sx_up_eq]
    by_cases hr : sx_isr ci k = true
    · rw [if_pos hr] at this ⊢; rw [this]; rfl
    · rw [if_neg hr] at this ⊢; rw [this]; rfl
theorem sx_sh_st {G : sx_G} {n : Nat} (h1 : 15 ≤ n) (h2 : n ≤ 199) : sx_sh G n = sx_shS n := by
  unfold sx_sh
  rw [show Nat.ble n 14 = false from by cases hb : Nat.ble n 14 with | false => rfl | true => have := sx_ble_t hb; omega, Nat.ble_eq_true_of_le h2]
  rfl
theorem sx_sh_dy {G : sx_G} {m : Nat} : sx_sh G (200 + m) = if m % 3 = 0 then (0, 5, 4) else (1, 0, G.2.2 (200 + m)) := by
  unfold sx_sh
  rw [show Nat.ble (200 + m) 14 = false from by cases hb : Nat.ble (200 + m) 14 with | false => rfl | true => have := sx_ble_t hb; omega,
    show Nat.ble (200 + m) 199 = false from by cases hb : Nat.ble (200 + m) 199 with | false => rfl | true => have := sx_ble_t hb; omega]
  simp only [cond_false]
  rw [show 200 + m - 200 = m by omega]
  by_cases h : m % 3 = 0
  · rw [if_pos h, h]; rfl
  · rw [if_neg h, show Nat.beq (m % 3) 0 = false from sx_bf.mpr h]; rfl
theorem sx_s_new {i : Nat} (N : ∀ mc ms L st I G, f mc ms cs L st I G → sx_V j (d + 1) mc ms K npc L st I G) (ok : sx_ok j (.new i) pc npc ax cv) (h : sx_step j d K cd f (.new i) pc ax cv cs mc ms L st I G) : sx_V j (d + 1) mc ms K pc L st I G := by
  obtain ⟨hd, rfl, ok⟩ := ok
  simp only [sx_step, sx_stepG] at h
  split at h
  · rename_i ci N0 ax'
    obtain ⟨w, ty0, hw, hN, hin, hty, h1, h2, h3, hdef⟩ := ok _ _ _ rfl
    obtain ⟨Rf, g, ln⟩ := G
    split at h
    · rename_i n hgn hmc hms
      simp only at hgn
      subst hgn
      split at h
      · rename_i lab ci2 N2 hsn
        split at h
        · rename_i hb
          simp only [Bool.and_eq_true] at hb
          obtain ⟨⟨⟨hb1, hb2⟩, hb3⟩, hb4⟩ := hb
          have e1 := Nat.eq_of_beq_eq_true hb1
          have e2 := Nat.eq_of_beq_eq_true hb2
          subst e1; subst e2
          have hL := sx_L_at (sx_ble_t hb4) (sx_ble_t hb3)
          rw [hsn] at hL
          exact sx_newobj (n := lab) (G' := (sx_upR Rf lab (fun _ => none), .inl (n + 1), ln)) hd hw hN hin hty h1 h2 h3 hdef (sx_ble_t hmc) (sx_ble_t hms) (by show lab = sx_lb n; rw [sx_lb_eq (sx_ble_t hb4) (sx_ble_t hb3), hsn]) (by rw [sx_sh_st hL.2.2.2.1 hL.2.2.1]; exact hL.2.2.2.2) rfl rfl rfl (N _ _ _ _ _ _ h)
        · exact h.elim
      · exact h.elim
    · rename_i m hgn hmc hms
      simp only at hgn
      subst hgn
      obtain ⟨⟨hm, rfl, rfl⟩, h⟩ := h
      exact sx_newobj (n := 200 + m) (G' := (sx_upR Rf (200 + m) (fun _ => none), .inr (m + 1), ln)) hd hw hN hin hty h1 h2 h3 hdef (sx_ble_t hmc) (sx_ble_t hms) (by show 200 + m = sx_lb (100 + m); rw [sx_lb_hi (by omega)]; omega) (by rw [sx_sh_dy, if_pos hm]) rfl (by show 100 + (m + 1) = 100 + m + 1; omega) rfl (N _ _ _ _ _ _ h)
    · exact h.elim
  · exact h.elim
theorem sx_newarr {at0 : ArrayType} {t N0 k n : Nat} {r : List Value} {G' : sx_G} (hd : decode (sx_by j) pc = .ok (.newarray at0, 2)) (hN : N0 < 65536) (hat : (t = 0 ∧ at0 = .int) ∨ (t = 1 ∧ at0 = .byte) ∨ (t = 2 ∧ at0 = .boolean)) (hw : Jvm.Cond.arrayClass (newarray.typeOf at0) ∈ sx_tb)
    (hk : k ≤ N0) (hmc : 1 ≤ mc) (hms : N0 ≤ ms) (hn : n = sx_lb (sx_nx G)) (hsh : sx_sh G' n = (1, t, k)) (hg1 : G'.1 = G.1) (hnx : sx_nx G' = sx_nx G + 1) (hsh2 : ∀ i, i ≠ n → sx_sh G' i = sx_sh G i) (hln : (∀ a, G.2.2 a < 2 ^ 31) → ∀ a, G'.2.2 a < 2 ^ 31) (h14 : 15 ≤ n → G'.2.2 14 = G.2.2 14)
    (kN : sx_V j (d + 1) (mc - 1) (ms - N0) K (pc + 2) L (.ref n :: r) (sx_up I n (fun _ => 0)) G') : sx_V j (d + 1) mc ms K pc L (.int (nI k) :: r) I G := by
  subst hn
  intro P p l e R s m args below meth c mcT msT H locs cells slots ls C g1 g2 hS hR hl
  obtain ⟨hx, hb, hml, hown, hts, -, -, -, hfr, hlo, hce, hsl, -⟩ := id C
  have h15 := hR.2.2.2.1
  have h31 : k < 2 ^ 31 := Nat.lt_of_le_of_lt hk (Nat.lt_trans hN (Nat.le_of_ble_eq_true rfl))
  have hcb : componentBytes (newarray.typeOf at0) ≤ 4 := by
    rcases hat with ⟨-, rfl⟩ | ⟨-, rfl⟩ | ⟨-, rfl⟩ <;> exact Nat.le_of_ble_eq_true rfl
  have hbytes : k * componentBytes (newarray.typeOf at0) ≤ 536870912 := by
    have h1 := Nat.mul_le_mul (Nat.le_of_lt (Nat.lt_of_le_of_lt hk hN)) hcb
    exact Nat.le_trans h1 (Nat.le_of_ble_eq_true rfl)
  refine va_newaK hx hb (hts _ hw) rfl hd rfl (nI_pos h31) (nI_clamp h31) hbytes (by omega) (by omega) rfl fun H1 cA e1 z1 o1 hAr hfc => ?_
  have hadr : sx_tr P (sx_lb (sx_nx G)) = H.size := by rw [sx_tr_nx h15, hR.2.2.1]
  have ht : t < 3 := by rcases hat with ⟨rfl, -⟩ | ⟨rfl, -⟩ | ⟨rfl, -⟩ <;> omega
  have hty := (hR.1.2 _ _ (sx_tys_at (P := P) (t := t) (by omega))).2
  have hcA : cA = P.2.2.2.1 t := by
    rcases hat with ⟨rfl, rfl⟩ | ⟨rfl, rfl⟩ | ⟨rfl, rfl⟩
    · exact Option.some.inj (hfc.symm.trans hty)
    · exact Option.some.inj (hfc.symm.trans hty)
    · exact Option.some.inj (hfc.symm.trans hty)
  have hdv : defaultValue (newarray.typeOf at0) = .int 0 := by
    rcases hat with ⟨-, rfl⟩ | ⟨-, rfl⟩ | ⟨-, rfl⟩ <;> rfl
  have kk := kN P p l e R s m args below meth c mcT msT H1 locs (cells + 1) (slots + k) ls C (by omega) (by omega) (sx_S_new hS z1 o1) (sx_Rel_new hR hnx hsh2 (hln hR.2.2.2.2.1) (h14 (sx_lb_ok h15).2.2) (fun i hi => sx_up_ne hi) (fun i hi => by rw [hg1]) z1 o1 ?_) hl
  · have e : sx_tv P (.ref (sx_lb (sx_nx G))) = .ref H.size := by show Value.ref _ = _; rw [hadr]
    rw [List.map_cons, e] at kk
    exact kk
  · rw [hsh, sx_ce_arr ht, hadr, sx_up_eq]
    show H1[H.size]? = some (vp_cell _ _)
    rw [e1, hdv, hcA]
    rfl
theorem sx_s_newarray {at1 : ArrayType} (N : ∀ mc ms L st I G, f mc ms cs L st I G → sx_V j (d + 1) mc ms K npc L st I G) (ok : sx_ok j (.newarray at1) pc npc ax cv) (h : sx_step j d K cd f (.newarray at1) pc ax cv cs mc ms L st I G) : sx_V j (d + 1) mc ms K pc L st I G := by
  obtain ⟨at0, hd, rfl, ok⟩ := ok
  simp only [sx_step, sx_stepG] at h
  split at h
  · rename_i x r t N0 ax'
    obtain ⟨hN, hat, hw⟩ := ok _ _ _ rfl
    obtain ⟨Rf, g, ln⟩ := G
    split at h
    · rename_i n hgn hmc hms
      simp only at hgn
      subst hgn
      split at h
      · rename_i lab t2 N2 hsn
        split at h
        · rename_i hb
          simp only [Bool.and_eq_true] at hb
          obtain ⟨⟨⟨hb1, hb2⟩, hb3⟩, hb4⟩ := hb
          have e1 := Nat.eq_of_beq_eq_true hb1
          have e2 := Nat.eq_of_beq_eq_true hb2
          subst e1; subst e2
          obtain ⟨rfl, h⟩ := h
          have hL := sx_L_at (sx_ble_t hb4) (sx_ble_t hb3)
          rw [hsn] at hL
          exact sx_newarr (n := lab) (G' := (Rf, .inl (n + 1), ln)) hd hN hat hw (Nat.le_refl _) (sx_ble_t hmc) (sx_ble_t hms) (by show lab = sx_lb n; rw [sx_lb_eq (sx_ble_t hb4) (sx_ble_t hb3), hsn]) (by rw [sx_sh_st hL.2.2.2.1 hL.2.2.1]; exact hL.2.2.2.2) rfl rfl (fun i _ => sx_sh_ln rfl i) (fun q => q) (fun _ => rfl) (N _ _ _ _ _ _ h)
        · exact h.elim
      · exact h.elim
    · rename_i m hgn hmc hms
      simp only at hgn
      subst hgn
      obtain ⟨k, ⟨rfl, hk, hm, rfl, -⟩, h⟩ := h
      refine sx_newarr (n := 200 + m) (G' := (Rf, .inr (m + 1), fun i => if i = 200 + m then k else ln i)) hd hN hat hw hk (sx_ble_t hmc) (sx_ble_t hms) (by show 200 + m = sx_lb (100 + m); rw [sx_lb_hi (by omega)]; omega) (by rw [sx_sh_dy, if_neg (by omega)]; simp) rfl (by show 100 + (m + 1) = 100 + m + 1; omega) (fun i hi => ?_) (fun q a => ?_) (fun _ => ?_) (N _ _ _ _ _ _ h)
      · have hi : ¬ i = 200 + m := hi
        unfold sx_sh sx_shR
        simp only
        rw [if_neg hi, if_neg (show ¬ 14 = 200 + m by omega)]
      · show (if a = 200 + m then k else ln a) < 2 ^ 31
        by_cases e : a = 200 + m
        · rw [if_pos e]; exact Nat.lt_of_le_of_lt hk (Nat.lt_trans hN (Nat.le_of_ble_eq_true rfl))
        · rw [if_neg e]; exact q a
      · show (if 14 = 200 + m then k else ln 14) = ln 14
        rw [if_neg (by omega)]
    · exact h.elim
  · exact h.elim
theorem sx_s_anewarray {i : Nat} (N : ∀ mc ms L st I G, f mc ms cs L st I G → sx_V j (d + 1) mc ms K npc L st I G) (ok : sx_ok j (.anewarray i) pc npc ax cv) (h : sx_step j d K cd f (.anewarray i) pc ax cv cs mc ms L st I G) : sx_V j (d + 1) mc ms K pc L st I G := by
  obtain ⟨hd, rfl, ok⟩ := ok
  simp only [sx_step, sx_stepG] at h
  split at h
  · rename_i x r t N0 ax'
    obtain ⟨hN, hat⟩ := ok _ _ _ rfl
    obtain ⟨Rf, g, ln⟩ := G
    split at h
    · rename_i n hgn hmc hms
      simp only at hgn
      subst hgn
      split at h
      · rename_i lab t2 N2 hsn
        split at h
        · rename_i hb
          simp only [Bool.and_eq_true] at hb
          obtain ⟨⟨⟨hb1, hb2⟩, hb3⟩, hb4⟩ := hb
          have e1 := Nat.eq_of_beq_eq_true hb1
          have e2 := Nat.eq_of_beq_eq_true hb2
          subst e1; subst e2
          obtain ⟨rfl, h⟩ := h
          have kN := N _ _ _ _ _ _ h
          have hmc := sx_ble_t hmc
          have hms := sx_ble_t hms
          intro P p l e R s m args below meth c mcT msT H locs cells slots ls C g1 g2 hS hR hl
          obtain ⟨hx, hb, hml, hown, hts, -, -, -, hfr, hlo, hce, hsl, hRO, -⟩ := id C
          have h15 := hR.2.2.2.1
          have h31 : N0 < 2 ^ 31 := Nat.lt_trans hN (Nat.le_of_ble_eq_true rfl)
          have hbytes : N0 * 4 ≤ 536870912 := by omega
          have hC : ∃ C0 : String, sx_ety t = .object C0 ∧ t < 6 ∧ 3 ≤ t ∧ Jvm.Cond.classLink (sx_nm j).cls i C0 ∈ sx_tb ∧ va_AO C0 s := by
            rcases hat with ⟨rfl, hw⟩ | ⟨rfl, hw⟩ | ⟨rfl, hw⟩
            · exact ⟨_, rfl, by omega, by omega, hw, hRO.2.2.2.2.2.2.2.1⟩
            · exact ⟨_, rfl, by omega, by omega, hw, hRO.2.2.2.2.2.2.2.2.1⟩
            · exact ⟨_, rfl, by omega, by omega, hw, hRO.2.2.2.2.2.2.2.2.2⟩
          obtain ⟨C0, hC0, ht6, ht3, hw, hao⟩ := hC
          refine W.anew hx hb hown (hts _ hw) (va_AO.use hao) rfl hd rfl (nI_pos h31) (by rw [nI_clamp h31]; exact hbytes) (by omega) (by rw [nI_clamp h31]; omega) fun cA kA comp f1 f2 f3 f4 => ?_
          rw [nI_clamp h31]
          have hL := sx_L_at (sx_ble_t hb4) (sx_ble_t hb3)
          rw [hsn] at hL
          have hlab : sx_lb n = lab := by rw [sx_lb_eq (sx_ble_t hb4) (sx_ble_t hb3), hsn]
          have hadr : sx_tr P lab = H.size := by
            have := sx_tr_nx (P := P) h15
            rw [show sx_nx ((Rf, Sum.inl n, ln) : sx_G) = n from rfl, hlab] at this
            rw [this, hR.2.2.1]; rfl
          have hty := (hR.1.2 _ _ (sx_tys_at (P := P) ht6)).2
          rw [hC0] at hty
          obtain ⟨kA', comp', -, -, -, hfc'⟩ := hty
          have hcA : cA = P.2.2.2.1 t := Option.some.inj (f1.symm.trans hfc')
          have z1 : (H.push ({ cls := cA, slots := Array.replicate N0 .null, vm := .none } : Cell)).size = H.size + 1 := Array.size_push ..
          have o1 : ∀ q : Nat, q < H.size → (H.push ({ cls := cA, slots := Array.replicate N0 .null, vm := .none } : Cell))[q]? = H[q]? := fun q hq => by rw [Array.getElem?_push, if_neg (Nat.ne_of_lt hq)]
          have kk := kN P p l e R s m args below meth c mcT msT _ locs (cells + 1) (slots + N0) ls C (by omega) (by omega) (sx_S_new hS z1 o1) (sx_Rel_new hR (by rfl) (fun i _ => sx_sh_ln rfl i) hR.2.2.2.2.1 rfl (fun i hi => rfl) (fun i hi => sx_upR_ne (fun z => hi (z.trans hlab.symm))) z1 o1 ?_) hl
          · have e : sx_tv P (.ref lab) = .ref H.size := by show Value.ref _ = _; rw [hadr]
            rw [List.map_cons, e] at kk
            exact kk
          · show va_at _ _ (sx_tr P (sx_lb n), sx_ce P (sx_sh _ (sx_lb n)) (I (sx_lb n)) (sx_upR Rf lab (fun _ => none) (sx_lb n))) _
            rw [hlab, sx_sh_st hL.2.2.2.1 hL.2.2.1, hL.2.2.2.2, sx_ce_arrR ht3, hadr, sx_upR_eq]
            show (H.push _)[H.size]? = some (vp_cell _ _)
            rw [Array.getElem?_push_size, vp_cell_q, arrV_new, hcA]
            rfl
        · exact h.elim
      · exact h.elim
    · exact h.elim
  · exact h.elim
end
