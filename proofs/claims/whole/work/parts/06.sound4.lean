/-! ===== steps that write ===== -/
section
variable {j d mc ms : Nat} {K : sx_K} {pc npc : Nat} {L : sx_L} {I : sx_I} {G : sx_G} {cs cd : List sx_E} {f : sx_T} {ax : List Nat} {cv : Value} {st : List Value}
theorem sx_up_ne {I : sx_I} {a i : Nat} {g : Nat → Int32} (h : i ≠ a) : sx_up I a g i = I i := if_neg h
theorem sx_up_eq {I : sx_I} {a : Nat} {g : Nat → Int32} : sx_up I a g a = g := if_pos rfl
theorem sx_upR_ne {R : Nat → Nat → Option Nat} {a i : Nat} {g : Nat → Option Nat} (h : i ≠ a) : sx_upR R a g i = R i := if_neg h
theorem sx_upR_eq {R : Nat → Nat → Option Nat} {a : Nat} {g : Nat → Option Nat} : sx_upR R a g a = g := if_pos rfl
/-- behind a write into the cell of one id -/
theorem sx_Rel_upd {P : sx_P} {I I' : sx_I} {G G' : sx_G} {s : State} {H H1 : Heap} {a : Nat} (hR : sx_Rel P I G s H) (hg : G'.2 = G.2) (hI : ∀ i, i ≠ a → I' i = I i) (hRf : ∀ i, i ≠ a → G'.1 i = G.1 i) (ha : 15 ≤ a ∧ sx_gd a = true)
    (z : H1.size = H.size) (oq : ∀ q, q ≠ sx_tr P a → H1[q]? = H[q]?) (he : va_at P.2.2.2.2 vwCl (sx_tr P a, sx_ce P (sx_sh G a) (I' a) (G'.1 a)) H1) : sx_Rel P I' G' s H1 := by
  have hnx : sx_nx G' = sx_nx G := by unfold sx_nx; rw [hg]
  have hsh : ∀ i, sx_sh G' i = sx_sh G i := by
    intro i
    unfold sx_sh sx_shR
    rw [hg]
  refine ⟨hR.1, sx_P_upd hR.2.1 hnx hsh hI hRf ha oq he, by rw [z, hnx]; exact hR.2.2.1, by rw [hnx]; exact hR.2.2.2.1, by rw [hg]; exact hR.2.2.2.2.1, ?_⟩
  have e14 : I' 14 = I 14 := hI 14 (by have := ha.1; omega)
  rw [hg, e14]
  exact hR.2.2.2.2.2.kept (fun q _ hq => oq q (fun e => hq (by rw [e]; exact sx_tr_A ha.1)))
theorem sx_upd_arr (cA : ClassId) (n k : Nat) (g : Nat → Int32) (x : Int32) : (vp_cell cA (n, .inl g)).setSlot k (.int x) = vp_cell cA (n, .inl (upd g k x)) := by
  rw [vp_cell_i, vp_cell_i, arrV_store]
  congr 1
  funext q
  by_cases hq : q = k
  · subst hq; simp [updV, upd]
  · simp [updV, upd, hq]
theorem sx_s_iastore (N : ∀ mc ms L st I G, f mc ms cs L st I G → sx_V j (d + 1) mc ms K npc L st I G) (ok : sx_ok j .iastore pc npc ax cv) (h : sx_step j d K cd f .iastore pc ax cv cs mc ms L st I G) : sx_V j (d + 1) mc ms K pc L st I G := by
  obtain ⟨hd, rfl⟩ := ok
  simp only [sx_step, sx_stepG] at h
  split at h
  · split at h
    · rename_i hal hsh h14
      obtain ⟨k, ⟨rfl, hk⟩, h⟩ := h
      have kN := N _ _ _ _ _ _ h
      intro P p l e R s m args below meth c mcT msT H locs cells slots ls C g1 g2 hS hR hl
      have h15 := sx_ble_f h14
      have hn := (sx_sh_arr hR.2.2.2.2.1 hsh).2
      have hws := sx_ws_at (P := P) (I := I) (G := G) h15 (sx_al_lt hR.2.2.2.1 hal)
      rw [hsh, sx_ce_arr (by omega)] at hws
      have hty := sx_tys_at (P := P) (t := 0) (by omega)
      refine W.iast C.1 C.2.1 (hR.2.1 _ _ hws) ((hR.1.2 _ _ hty).1 _ _) (fun q => by cases q) (by show ¬ (_ ∨ (arrV _ _ _).slots.size ≤ _); rw [arrV_size]; exact sx_vin hk hn) rfl rfl hd fun H1 e1 z oq => ?_
      refine kN P p l e R s m args below meth c mcT msT H1 _ cells slots ls C g1 g2 (hS.put z oq (sx_tr_A h15)) (sx_Rel_upd hR rfl (fun i hi => sx_up_ne hi) (fun _ _ => rfl) ⟨h15, sx_al_gd hal⟩ z oq ?_) hl
      rw [hsh, sx_ce_arr (by omega), sx_up_eq]
      show H1[_]? = some (vp_cell _ _)
      rw [e1, nI_clamp (by omega)]
      exact congrArg some (sx_upd_arr _ _ _ _ _)
    · exact h.elim
  · exact h.elim
theorem sx_s_bastore (N : ∀ mc ms L st I G, f mc ms cs L st I G → sx_V j (d + 1) mc ms K npc L st I G) (ok : sx_ok j .bastore pc npc ax cv) (h : sx_step j d K cd f .bastore pc ax cv cs mc ms L st I G) : sx_V j (d + 1) mc ms K pc L st I G := by
  obtain ⟨hd, rfl⟩ := ok
  simp only [sx_step, sx_stepG] at h
  split at h
  · split at h
    · rename_i hal hsh h14
      obtain ⟨k, ⟨rfl, hk⟩, h⟩ := h
      have kN := N _ _ _ _ _ _ h
      intro P p l e R s m args below meth c mcT msT H locs cells slots ls C g1 g2 hS hR hl
      have h15 := sx_ble_f h14
      have hn := (sx_sh_arr hR.2.2.2.2.1 hsh).2
      have hws := sx_ws_at (P := P) (I := I) (G := G) h15 (sx_al_lt hR.2.2.2.1 hal)
      rw [hsh, sx_ce_arr (by omega)] at hws
      have hty := sx_tys_at (P := P) (t := 1) (by omega)
      refine W.bast C.1 C.2.1 (hR.2.1 _ _ hws) ((hR.1.2 _ _ hty).1 _ _) (fun q => by cases q) (by show ¬ (_ ∨ (arrV _ _ _).slots.size ≤ _); rw [arrV_size]; exact sx_vin hk hn) rfl rfl hd fun H1 e1 z oq => ?_
      refine kN P p l e R s m args below meth c mcT msT H1 _ cells slots ls C g1 g2 (hS.put z oq (sx_tr_A h15)) (sx_Rel_upd hR rfl (fun i hi => sx_up_ne hi) (fun _ _ => rfl) ⟨h15, sx_al_gd hal⟩ z oq ?_) hl
      rw [hsh, sx_ce_arr (by omega), sx_up_eq]
      show H1[_]? = some (vp_cell _ _)
      rw [e1, nI_clamp (by omega)]
      exact congrArg some (sx_upd_arr _ _ _ _ _)
    · rename_i hal hsh h14
      obtain ⟨k, ⟨rfl, hk⟩, h⟩ := h
      have kN := N _ _ _ _ _ _ h
      intro P p l e R s m args below meth c mcT msT H locs cells slots ls C g1 g2 hS hR hl
      have h15 := sx_ble_f h14
      have hn := (sx_sh_arr hR.2.2.2.2.1 hsh).2
      have hws := sx_ws_at (P := P) (I := I) (G := G) h15 (sx_al_lt hR.2.2.2.1 hal)
      rw [hsh, sx_ce_arr (by omega)] at hws
      have hty := sx_tys_at (P := P) (t := 2) (by omega)
      refine W.zast C.1 C.2.1 (hR.2.1 _ _ hws) ((hR.1.2 _ _ hty).1 _ _) (fun q => by cases q) (by show ¬ (_ ∨ (arrV _ _ _).slots.size ≤ _); rw [arrV_size]; exact sx_vin hk hn) rfl rfl hd fun H1 e1 z oq => ?_
      refine kN P p l e R s m args below meth c mcT msT H1 _ cells slots ls C g1 g2 (hS.put z oq (sx_tr_A h15)) (sx_Rel_upd hR rfl (fun i hi => sx_up_ne hi) (fun _ _ => rfl) ⟨h15, sx_al_gd hal⟩ z oq ?_) hl
      rw [hsh, sx_ce_arr (by omega), sx_up_eq]
      show H1[_]? = some (vp_cell _ _)
      rw [e1, nI_clamp (by omega)]
      exact congrArg some (sx_upd_arr _ _ _ _ _)
    · exact h.elim
  · exact h.elim
theorem sx_tr_map (P : sx_P) (g : Nat → Option Nat) (k v : Nat) : (fun i => ((if i = k then some v else g i) : Option Nat).map (sx_tr P)) = va_up (fun i => (g i).map (sx_tr P)) k (some (sx_tr P v)) := by
  funext i
  by_cases h : i = k
  · simp [va_up, h]
  · simp [va_up, h]
theorem sx_upd_arrR (cA : ClassId) (n k v : Nat) (g : Nat → Option Nat) : (vp_cell cA (n, .inr (.inr (.inr (.inr g))))).setSlot k (.ref v) = vp_cell cA (n, .inr (.inr (.inr (.inr (va_up g k (some v)))))) := by
  rw [vp_cell_q, vp_cell_q, arrV_store]
  congr 1
  funext q
  by_cases hq : q = k
  · subst hq; simp [updV, va_up, va_rf]
  · simp [updV, va_up, hq]
theorem sx_astore {t ci n n2 a v k : Nat} {r : List Value} (hd : decode (sx_by j) pc = .ok (.aastore, 1)) (ht3 : 3 ≤ t) (hal : sx_al G a = true) (hsh : sx_sh G a = (1, t, n)) (halv : sx_al G v = true) (hshv : sx_sh G v = (0, ci, n2)) (hk : k < n)
    (hcl : ∀ (w : vw_C), vwCl[ci]? = some w → sx_ety t = .object w.1) (h15 : 15 ≤ a)
    (kN : sx_V j (d + 1) mc ms K (pc + 1) L r I (sx_upR G.1 a (fun i => if i = k then some v else G.1 a i), G.2)) : sx_V j (d + 1) mc ms K pc L (.ref v :: .int (nI k) :: .ref a :: r) I G := by
  intro P p l e R s m args below meth c mcT msT H locs cells slots ls C g1 g2 hS hR hl
  obtain ⟨ht, hn⟩ := sx_sh_arr hR.2.2.2.2.1 hsh
  obtain ⟨h15v, w, hw, hwn⟩ := sx_sh_cls hR.2.2.2.2.1 hshv
  have hws := sx_ws_at (P := P) (I := I) (G := G) h15 (sx_al_lt hR.2.2.2.1 hal)
  have hwv := sx_ws_at (P := P) (I := I) (G := G) h15v (sx_al_lt hR.2.2.2.1 halv)
  rw [hsh, sx_ce_arrR ht3] at hws
  rw [hshv] at hwv
  have hty := sx_tys_at (P := P) ht
  rw [hcl w hw] at hty
  obtain ⟨r', hr', cellV, q1, q2, q3, -⟩ := hR.2.1 _ _ hwv
  have hcls := (hR.1.1 ci w hw).2
  obtain ⟨kA, comp, k1, k2, k3, -⟩ := (hR.1.2 _ _ hty).2
  have hcomp : comp = P.2.2.2.2.1 ci := Option.some.inj (k3.symm.trans hcls.1)
  subst hcomp
  obtain ⟨kC, hkC, -⟩ := hcls.2
  refine W.aast C.1 C.2.1 (hR.2.1 _ _ hws) (fun q h => by cases h) (fun h => by cases h) k1 k2 rfl hkC ⟨nI_pos (by omega), by show _ < (arrV _ _ _).slots.size; rw [arrV_size, nI_clamp (by omega)]; exact hk⟩ q1 (fun q h => by rw [q3] at h; cases h) (by rw [q2]; exact hkC) (by rw [q2]; exact va_assign hcls) rfl rfl hd fun H1 e1 z oq => ?_
  refine kN P p l e R s m args below meth c mcT msT H1 _ cells slots ls C g1 g2 (hS.put z oq (sx_tr_A h15)) (sx_Rel_upd hR rfl (fun _ _ => rfl) (fun i hi => sx_upR_ne hi) ⟨h15, sx_al_gd hal⟩ z oq ?_) hl
  rw [hsh, sx_ce_arrR ht3]
  show H1[_]? = some (vp_cell _ _)
  rw [e1, nI_clamp (by omega)]
  refine congrArg some ((sx_upd_arrR _ _ _ _ _).trans ?_)
  simp only [sx_upR_eq]
  rw [sx_tr_map]
theorem sx_tr_mapN (P : sx_P) (g : Nat → Option Nat) (k : Nat) : (fun i => ((if i = k then none else g i) : Option Nat).map (sx_tr P)) = va_up (fun i => (g i).map (sx_tr P)) k none := by
  funext i
  by_cases h : i = k
  · simp [va_up, h]
  · simp [va_up, h]
theorem sx_upd_arrRN (cA : ClassId) (n k : Nat) (g : Nat → Option Nat) : (vp_cell cA (n, .inr (.inr (.inr (.inr g))))).setSlot k .null = vp_cell cA (n, .inr (.inr (.inr (.inr (va_up g k none))))) := by
  rw [vp_cell_q, vp_cell_q, arrV_store]
  congr 1
  funext q
  by_cases hq : q = k
  · subst hq; simp [updV, va_up, va_rf]
  · simp [updV, va_up, hq]
theorem sx_astoreN {t n a k : Nat} {r : List Value} (hd : decode (sx_by j) pc = .ok (.aastore, 1)) (ht3 : 3 ≤ t) (hal : sx_al G a = true) (hsh : sx_sh G a = (1, t, n)) (hk : k < n) (h15 : 15 ≤ a)
    (kN : sx_V j (d + 1) mc ms K (pc + 1) L r I (sx_upR G.1 a (fun i => if i = k then none else G.1 a i), G.2)) : sx_V j (d + 1) mc ms K pc L (.null :: .int (nI k) :: .ref a :: r) I G := by
  intro P p l e R s m args below meth c mcT msT H locs cells slots ls C g1 g2 hS hR hl
  obtain ⟨ht, hn⟩ := sx_sh_arr hR.2.2.2.2.1 hsh
  have hws := sx_ws_at (P := P) (I := I) (G := G) h15 (sx_al_lt hR.2.2.2.1 hal)
  rw [hsh, sx_ce_arrR ht3] at hws
  have hty := sx_tys_at (P := P) ht
  obtain ⟨C0, hC0⟩ : ∃ C0 : String, sx_ety t = .object C0 := by
    rcases (show t = 3 ∨ t = 4 ∨ t = 5 by omega) with h | h | h <;> subst h <;> exact ⟨_, rfl⟩
  rw [hC0] at hty
  refine va_WaastN (C := C0) C.1 C.2.1 (hR.2.1 _ _ hws) ((hR.1.2 _ _ hty).1 n (fun j => va_rf ((G.1 a j).map (sx_tr P)))) (fun h => by cases h) (by show ¬ (nI k < 0 ∨ (arrV _ _ _).slots.size ≤ _); rw [arrV_size, nI_clamp (by omega)]; rintro (z | z); exact nI_pos (by omega) z; exact Nat.not_le.mpr hk z) rfl rfl hd fun H1 e1 z oq => ?_
  refine kN P p l e R s m args below meth c mcT msT H1 _ cells slots ls C g1 g2 (hS.put z oq (sx_tr_A h15)) (sx_Rel_upd hR rfl (fun _ _ => rfl) (fun i hi => sx_upR_ne hi) ⟨h15, sx_al_gd hal⟩ z oq ?_) hl
  rw [hsh, sx_ce_arrR ht3]
  show H1[_]? = some (vp_cell _ _)
  rw [e1, nI_clamp (by omega)]
  refine congrArg some ((sx_upd_arrRN _ _ _ _).trans ?_)
  simp only [sx_upR_eq]
  rw [sx_tr_mapN]
theorem sx_sh_arr15 {a t n : Nat} (h : sx_sh G a = (1, t, n)) (ht : 2 ≤ t) : 15 ≤ a := by
  rcases Nat.lt_or_ge a 15 with q | q
  · exfalso
    rw [sx_sh_ro q] at h
    unfold sx_shR at h
    cases hb9 : Nat.beq a 14 with
    | true => rw [hb9] at h; simp at h; omega
    | false =>
      rw [hb9] at h
      rw [sx_bf] at hb9
      simp only [cond_false] at h
      rcases sx_ro_cases (a := a) (by omega) with z | z | ⟨i, z⟩ | ⟨i, z⟩
      · rw [z.1] at h; cases h; omega
      · rw [z.1] at h; cases h; omega
      · rw [z.2.2] at h; cases h
      · rw [z.2.2] at h; cases h; omega
  · exact q
theorem sx_s_aastore (N : ∀ mc ms L st I G, f mc ms cs L st I G → sx_V j (d + 1) mc ms K npc L st I G) (ok : sx_ok j .aastore pc npc ax cv) (h : sx_step j d K cd f .aastore pc ax cv cs mc ms L st I G) : sx_V j (d + 1) mc ms K pc L st I G := by
  obtain ⟨hd, rfl⟩ := ok
  simp only [sx_step, sx_stepG] at h
  split at h
  · split at h
    · rename_i hal hsh halv hshv
      split at h
      · obtain ⟨k, ⟨rfl, hk⟩, h⟩ := h
        exact sx_astore hd (by omega) hal hsh halv hshv hk (fun w hw => by cases hw; rfl) (sx_sh_arr15 hsh (by omega)) (N _ _ _ _ _ _ h)
      · obtain ⟨k, ⟨rfl, hk⟩, h⟩ := h
        exact sx_astore hd (by omega) hal hsh halv hshv hk (fun w hw => by cases hw; rfl) (sx_sh_arr15 hsh (by omega)) (N _ _ _ _ _ _ h)
      · obtain ⟨k, ⟨rfl, hk⟩, h⟩ := h
        exact sx_astore hd (by omega) hal hsh halv hshv hk (fun w hw => by cases hw; rfl) (sx_sh_arr15 hsh (by omega)) (N _ _ _ _ _ _ h)
      · exact h.elim
    · exact h.elim
  · split at h
    · rename_i hal hsh
      split at h
      · rename_i h3
        obtain ⟨k, ⟨rfl, hk⟩, h⟩ := h
        have h3 := Nat.le_of_ble_eq_true h3
        exact sx_astoreN hd h3 hal hsh hk (sx_sh_arr15 hsh (by omega)) (N _ _ _ _ _ _ h)
      · exact h.elim
    · exact h.elim
  · exact h.elim
/-- putfield, whatever the value -/
theorem sx_putf {i ci k n a : Nat} {v : Value} {r : List Value} {I' : sx_I} {Rf : Nat → Nat → Option Nat} {w : vw_C} {ty0 : Nat → FieldType} (hd : decode (sx_by j) pc = .ok (.putfield i, 3)) (hal : sx_al G a = true) (hsh : sx_sh G a = (0, ci, n)) (hw : vwCl[ci]? = some w) (hkN : k < w.2.2) (hin : ∀ x ∈ u_ws w.1 w.2.1 w.2.2, x ∈ sx_tb)
    (hlink : Jvm.Cond.fieldLink (sx_nm j).cls i (w.2.1 k).1 (w.2.1 k).2.1 (w.2.1 k).2.2.1 ∈ sx_tb) (hty : ∀ k, k < w.2.2 → parseFieldDescriptor (w.2.1 k).2.2.1 = some (ty0 k)) (hnm : ∀ a, a < w.2.2 → ∀ b, b < w.2.2 → a ≠ b → (w.2.1 a).2.1 ≠ (w.2.1 b).2.1)
    (hfin : (w.2.1 k).2.2.2 = false ∨ ((w.2.1 k).2.2.2 = true ∧ sx_ct j ∧ (w.2.1 k).1 = (sx_nm j).cls)) (hn : ∀ P, narrow (ty0 k) (sx_tv P v) = sx_tv P v) (hf : ∀ P, fits (ty0 k) (sx_tv P v) = true)
    (hI : ∀ i, i ≠ a → I' i = I i) (hRf : ∀ i, i ≠ a → Rf i = G.1 i) (hv : ∀ P, (if sx_isr ci k = true then va_rf ((Rf a k).map (sx_tr P)) else Value.int (I' a k)) = sx_tv P v) (ho : ∀ q, q ≠ k → I' a q = I a q ∧ Rf a q = G.1 a q)
    (kN : sx_V j (d + 1) mc ms K (pc + 3) L r I' (Rf, G.2)) : sx_V j (d + 1) mc ms K pc L (v :: .ref a :: r) I G := by
  intro P p l e R s m args below meth c mcT msT H locs cells slots ls C g1 g2 hS hR hl
  obtain ⟨h15, w', hw', hwn⟩ := sx_sh_cls hR.2.2.2.2.1 hsh
  cases hw.symm.trans hw'
  obtain ⟨wC, wT, wN⟩ := w
  simp only at hkN hin hlink hty hnm hfin hwn
  subst hwn
  obtain ⟨hx, hb, hml, hown, hts, hlk, hrt, hct, -⟩ := id C
  have hws := sx_ws_at (P := P) (I := I) (G := G) h15 (sx_al_lt hR.2.2.2.1 hal)
  rw [hsh] at hws
  have hap := va_apart (own := (sx_nm j).cls) hts hin ty0 hty hnm hR.1 hw
  obtain ⟨rr, h1, cell, q1, q2, q3, q4⟩ := hR.2.1 _ _ hws
  have hr : rr = (wC, wT, wN) := Option.some.inj (h1.symm.trans hw)
  subst hr
  obtain ⟨hSl, hfc, kC, hkC, hkind⟩ := hR.1.1 ci _ hw
  obtain ⟨cf, kf, fi, fd, hi, hsl⟩ := hSl k hkN
  have hlay := hts _ (hin _ (u_in_lay hkN))
  unfold u_lay at hlay
  have hst := (u_facts hfc hkC (u_lays hts hin hkN) hi).1
  have fin : ∀ (H' : Heap), H'[sx_tr P a]? = some (cell.setSlot fd.slot (sx_tv P v)) → H'.size = H.size → (∀ q, q ≠ sx_tr P a → H'[q]? = H[q]?) → W p l e R s m args below meth c H' (locs ++ [⟨sx_tr P a, fd.slot⟩]) cells slots (MQ below (sx_Qc P K) args s mcT msT (sx_A P)) (F0 m (pc + 3) ls (r.map (sx_tv P))) := by
    intro H' e1 e2 e3
    refine kN P p l e R s m args below meth c mcT msT H' _ cells slots ls C g1 g2 (hS.put e2 e3 (sx_tr_A h15)) (sx_Rel_upd hR rfl hI hRf ⟨h15, sx_al_gd hal⟩ e2 e3 ?_) hl
    rw [hsl] at e1
    rw [hsh]
    refine ⟨_, hw, t_OB.to (V := updV (vp_V ((List.range wN).map (fun k => if sx_isr ci k = true then va_rf ((G.1 a k).map (sx_tr P)) else Value.int (I a k)))) k (sx_tv P v)) ⟨_, e1, q2, q3, t_set q4 hap hkN (sx_tv P v)⟩ (fun q hq => ?_)⟩
    show (if q = k then sx_tv P v else vp_V _ q) = vp_V ((List.range wN).map (fun k => if sx_isr ci k = true then va_rf ((Rf a k).map (sx_tr P)) else Value.int (I' a k))) q
    unfold vp_V
    rw [List.getD_eq_getElem?_getD, List.getD_eq_getElem?_getD, sx_fs_at hq, sx_fs_at hq]
    by_cases hqk : q = k
    · subst hqk
      rw [if_pos rfl]
      exact (hv P).symm
    · rw [if_neg hqk]
      obtain ⟨o1, o2⟩ := ho q hqk
      rw [o1, o2]
  rcases hfin with hfin | ⟨hfin, hcj, hdecl⟩
  · rw [if_neg (by rw [hfin]; decide)] at hlay
    have h6 := u_store hfc hkC hkind hlay hi (hty k hkN) (hn P) (hf P)
    exact W.putK hx hb (f := fd) ⟨hown, hts _ hlink, ⟨_, _, _, hi⟩, hst⟩ (by rw [q2]; exact h6) q1 q3 (by rw [hsl]; exact k2_hasslot (q4 k hkN)) rfl rfl hd fin
  · rw [if_pos hfin] at hlay
    have hcf : m.cls = cf := by
      obtain ⟨_, _, c', _, _, _, -, -, hf', -, -, -, hown2, -⟩ := Cond.laysFinal_spec hlay
      have e1 : c' = cf := by have := hi.symm.trans hf'; simp at this; exact this.1.symm
      rw [hdecl] at hown2
      rw [← e1]; exact Option.some.inj (hown.symm.trans hown2)
    have h6 := u_fits hfc hkC hkind (Or.inr hlay) hi (hty k hkN) (hn P) (hf P)
    exact W.putFinK hx hb hown (hts _ hlink) hi hst hcf (hct hcj) (by rw [q2]; exact h6) q1 q3 (by rw [hsl]; exact k2_hasslot (q4 k hkN)) rfl rfl hd fin
theorem sx_s_putfield {i : Nat} (N : ∀ mc ms L st I G, f mc ms cs L st I G → sx_V j (d + 1) mc ms K npc L st I G) (ok : sx_ok j (.putfield i) pc npc ax cv) (h : sx_step j d K cd f (.putfield i) pc ax cv cs mc ms L st I G) : sx_V j (d + 1) mc ms K pc L st I G := by
  obtain ⟨hd, rfl, ok⟩ := ok
  simp only [sx_step, sx_stepG] at h
  split at h
  · rename_i v a r ci k q ax'
    obtain ⟨w, ty0, hw, hkN, hin, hlink, hq, hty, hnm, hfin, hq0, hq2, hq1⟩ := ok _ _ _ _ rfl
    split at h
    · rename_i ci2 n2 hal hsh
      split at h
      · rename_i b hci
        have hci := Nat.eq_of_beq_eq_true hci
        subst hci
        have hr : sx_isr ci k = true := hq.mp rfl
        refine sx_putf hd hal hsh hw hkN hin hlink hty hnm hfin (fun P => ?_) (fun P => ?_) (fun _ _ => rfl) (fun i hi => sx_upR_ne hi) (fun P => ?_) (fun q hqk => ⟨rfl, ?_⟩) (N _ _ _ _ _ _ h)
        · rcases hq1 rfl with ⟨n, e⟩ | ⟨t, e⟩ <;> rw [e] <;> rfl
        · rcases hq1 rfl with ⟨n, e⟩ | ⟨t, e⟩ <;> rw [e] <;> rfl
        · rw [if_pos hr, sx_upR_eq, if_pos rfl]; rfl
        · rw [sx_upR_eq, if_neg hqk]
      · rename_i x hci
        have hci := Nat.eq_of_beq_eq_true hci
        subst hci
        have hr : ¬ sx_isr ci k = true := fun e => absurd (hq.mpr e) (by decide)
        refine sx_putf hd hal hsh hw hkN hin hlink hty hnm hfin (fun P => ?_) (fun P => ?_) (fun i hi => sx_up_ne hi) (fun _ _ => rfl) (fun P => ?_) (fun q hqk => ⟨?_, rfl⟩) (N _ _ _ _ _ _ h)
        · rw [hq0 rfl]; rfl
        · rw [hq0 rfl]; rfl
        · rw [if_neg hr, sx_up_eq]; simp [upd, sx_tv]
        · rw [sx_up_eq]; simp [upd, hqk]
      · rename_i x hci
        have hci := Nat.eq_of_beq_eq_true hci
        subst hci
        have hr : ¬ sx_isr ci k = true := fun e => absurd (hq.mpr e) (by decide)
        refine sx_putf hd hal hsh hw hkN hin hlink hty hnm hfin (fun P => ?_) (fun P => ?_) (fun i hi => sx_up_ne hi) (fun _ _ => rfl) (fun P => ?_) (fun q hqk => ⟨?_, rfl⟩) (N _ _ _ _ _ _ h.2)
        · rw [hq2 rfl]
          rcases h.1 with e | e <;> rw [e] <;> rfl
        · rw [hq2 rfl]
          rcases h.1 with e | e <;> rw [e] <;> rfl
        · rw [if_neg hr, sx_up_eq]; simp [upd, sx_tv]
        · rw [sx_up_eq]; simp [upd, hqk]
      · exact h.elim
    · exact h.elim
  · exact h.elim
end
