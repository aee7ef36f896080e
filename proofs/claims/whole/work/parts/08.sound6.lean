/-! ===== calls ===== -/
theorem sx_RO.to {P : sx_P} {s U : State} {H0 H1 : Heap} (h : sx_RO P s H0) (hvm : s.vm.Alike U.vm) (hq : ∀ a : Nat, a < H0.size → ¬ sx_A P a → H1[a]? = H0[a]?) (hR : ∀ i, i < 6 → vk_R "StrawGarrison$Reader" (sx_sk i) (sx_stx i) (P.1 (2 + i)) s → vk_R "StrawGarrison$Reader" (sx_sk i) (sx_stx i) (P.1 (2 + i)) U)
    (hN : ∀ (a : String) (i : Nat) (x : MethodName) (b : String), va_Nw (.methodLinkNest a i x b) s → va_Nw (.methodLinkNest a i x b) U) : sx_RO P U H1 :=
  ⟨⟨va_Z.moved hvm (h.1.1.kept hq), va_T.moved hvm (h.1.2.kept hq)⟩, ⟨va_Z.moved hvm (h.2.1.1.kept hq), va_T.moved hvm (h.2.1.2.kept hq)⟩, va_Z.moved hvm (h.2.2.1.kept hq), ⟨va_Z.moved hvm (h.2.2.2.1.1.kept hq), h.2.2.2.1.2⟩,
    fun i hi => hR i hi (h.2.2.2.2.1 i hi), vk_S.moved hvm (h.2.2.2.2.2.1.kept hq), fun q hq2 => hN _ _ _ _ (h.2.2.2.2.2.2.1 q hq2), va_AO.moved hvm h.2.2.2.2.2.2.2.1, va_AO.moved hvm h.2.2.2.2.2.2.2.2.1, va_AO.moved hvm h.2.2.2.2.2.2.2.2.2⟩
theorem sx_Rel.to {P : sx_P} {I : sx_I} {G : sx_G} {s U : State} {H : Heap} (h : sx_Rel P I G s H) (hvm : s.vm.Alike U.vm) : sx_Rel P I G U H :=
  ⟨va_K.moved hvm h.1, h.2.1, h.2.2.1, h.2.2.2.1, h.2.2.2.2.1, va_T.moved hvm h.2.2.2.2.2⟩
theorem sx_blind (P : sx_P) (as : List Value) (I : sx_I) (G : sx_G) : FrameBlind (va_Pc as (fun U => sx_RO P U U.heap ∧ sx_Rel P I G U U.heap)) := by
  intro a U g mk h
  obtain ⟨h1, h2, h3⟩ := h
  refine ⟨h1, ?_, ?_⟩
  · exact h2.to (U := U.calling g mk a) (Vm.Alike.refl U.vm) (fun _ _ _ => rfl) (fun i hi q => vk_R.same rfl q) (fun _ _ _ _ q => va_Nw.same rfl rfl q)
  · exact h3.to (U := U.calling g mk a) (Vm.Alike.refl U.vm)
theorem sx_pre {P : sx_P} {as : List Value} {I : sx_I} {G : sx_G} {s : State} {H : Heap} {locs : List Loc} (hRO : sx_RO P s s.heap) (hS : va_S (sx_A P) s.heap H locs) (hR : sx_Rel P I G s H) : ∀ U : State, U.heap = H → s.WarmedH U.vm → va_Pc as (fun U => sx_RO P U U.heap ∧ sx_Rel P I G U U.heap) as.toArray U := by
  intro U hU hW
  refine ⟨rfl, ?_, ?_⟩
  · rw [hU]
    exact hRO.to hW.alike hS.2.1 (fun i hi q => vk_R.warm hW q) (fun _ _ _ _ q => va_Nw.warmM hW q)
  · rw [hU]
    exact hR.to hW.alike
theorem sx_goodIn {ws : List Jvm.Cond} (h : ∀ w ∈ ws, w ∈ sx_tb) : GoodIn sx_tb ws := fun w hw => ⟨h w hw, good_of_word (List.mem_filter.mp (h w hw)).2⟩
theorem sx_ww_in {t : Nat} (h : Jvm.Cond.code (sx_nm t) (sx_by t) (sx_ml t) (sx_rt t) ∈ sx_tb) : ∀ w ∈ sx_ww t, w ∈ sx_tb := by
  intro w hw
  rcases List.mem_cons.mp hw with rfl | h2
  · exact h
  · exact h2
theorem sx_pop_eq : ∀ (n : Nat) (st acc as r : List Value), sx_pop n st acc = some (as, r) → ∃ p, st = p ++ r ∧ as = p.reverse ++ acc ∧ p.length = n
  | 0, st, acc, as, r, h => by
    simp only [sx_pop, Option.some.injEq, Prod.mk.injEq] at h
    exact ⟨[], by simp [h.2], by simp [h.1], rfl⟩
  | n + 1, [], acc, as, r, h => by simp [sx_pop] at h
  | n + 1, v :: st, acc, as, r, h => by
    obtain ⟨p, h1, h2, h3⟩ := sx_pop_eq n st (v :: acc) as r h
    exact ⟨v :: p, by rw [h1]; rfl, by rw [h2]; simp, by simp [h3]⟩
section
variable {j d mc ms : Nat} {K : sx_K} {pc npc : Nat} {L : sx_L} {I : sx_I} {G : sx_G} {cs cd : List sx_E} {f : sx_T} {ax : List Nat} {cv : Value} {st : List Value}
theorem sx_after {t : Nat} {K' : sx_K} {as : Array Value} {r st0 : List Value} {P : sx_P} {p : Program} {l : Launch} {e : Env} {R : Room} {s : State} {m : MethodId} {args : Array Value} {below : List Frame} {meth : Method} {c : Code} {mcT msT : Nat} {H : Heap} {locs : List Loc} {cells slots : Nat} {ls : Array Slot}
    (C : sx_Cx j (d + 1) mcT msT P p R s m args meth c) (g1 : cells + mc ≤ mcT) (g2 : slots + ms ≤ msT) (hS : va_S (sx_A P) s.heap H locs) (hl : sx_LH P ls (sx_ml j) L) (hmc : sx_mc t ≤ mc) (hms : sx_ms t ≤ ms)
    (hr : va_Run p l e R s m args below meth c H locs cells slots (sx_mc t) (sx_ms t) (F0 m pc ls st0) (r.map (sx_tv P)) (sx_Qc P K' as) (sx_A P))
    (kN : ∀ v I2 G2, K' v I2 G2 → sx_V j (d + 1) (mc - sx_mc t) (ms - sx_ms t) K (pc + 3) L (sx_psh v r) I2 G2) : W p l e R s m args below meth c H locs cells slots (MQ below (sx_Qc P K) args s mcT msT (sx_A P)) (F0 m pc ls st0) := by
  intro T hT X
  obtain ⟨v, st₀, t2, T', Lc, h0, X', hL, e1, e2, ⟨⟨v', I2, G2, hv, hk, hrel⟩, hz, hkk⟩, step⟩ := hr T hT X
  cases hv
  rw [h0] at hz hkk
  have hvm : s.vm.Alike T'.vm := X'.warmed.alike
  have hrel2 : sx_Rel P I2 G2 s T'.heap := by
    have : t2.vm.Alike s.vm := by rw [← e2]; exact hvm.symm
    rw [e1]
    exact hrel.to this
  have hS2 : va_S (sx_A P) s.heap T'.heap (locs ++ Lc) := by
    rw [e1]
    refine ⟨Nat.le_trans hS.1 hz, fun q h1 h2 => ?_, fun q hq => ?_⟩
    · rw [hkk q (Nat.lt_of_lt_of_le h1 hS.1) h2]
      exact hS.2.1 q h1 h2
    · rcases List.mem_append.mp hq with h | h
      · exact hS.2.2 q h
      · exact hL q h
  obtain ⟨t3, a1, b1⟩ := kN v' I2 G2 hk P p l e R s m args below meth c mcT msT T'.heap (locs ++ Lc) (cells + sx_mc t) (slots + sx_ms t) ls C (by omega) (by omega) hS2 hrel2 hl T' rfl X'
  refine ⟨t3, step t3 ?_, b1⟩
  cases v' with
  | none => exact a1
  | some x => exact a1
theorem sx_hw {P : sx_P} {m : MethodId} {ls : Array Slot} {r rest : List Value} (h : r.length ≤ 4) : 2 * (F0 m pc ls rest).monitorRoom + ((r.map (sx_tv P)).map fun v => v.category).sum ≤ 8 := by
  have := sx_catsum P r
  exact lv_room (by omega)
theorem sx_maprev (P : sx_P) (as r : List Value) : (as.reverse ++ r).map (sx_tv P) = (as.map (sx_tv P)).reverse ++ r.map (sx_tv P) := by simp
theorem sx_s_invokestatic {i : Nat} (N : ∀ mc ms L st I G, f mc ms cs L st I G → sx_V j (d + 1) mc ms K npc L st I G) (ok : sx_ok j (.invokestatic i) pc npc ax cv) (h : sx_step j d K cd f (.invokestatic i) pc ax cv cs mc ms L st I G) : sx_V j (d + 1) mc ms K pc L st I G := by
  obtain ⟨hd, rfl, ok⟩ := ok
  simp only [sx_step, sx_stepG] at h
  split at h
  · rename_i t n c1 c2 ax'
    obtain ⟨rfl, rfl, lk, mh⟩ := ok _ _ _ _ _ rfl
    split at h
    · rename_i as r hpop hc
      simp only [Bool.and_eq_true] at hc
      split at h
      · rename_i hr4
        obtain ⟨pp, rfl, rfl, hlen⟩ := sx_pop_eq _ _ _ _ _ hpop
        simp only [List.append_nil] at h
        intro P p l e R s m args below meth c mcT msT H locs cells slots ls C g1 g2 hS hR hl
        obtain ⟨hx, hb, hml, hown, hts, -, -, -, hfr, hlo, hce, hsl, hRO, -⟩ := id C
        obtain ⟨lk1, lk2, lk3, lk4, lk5⟩ := lk
        have hmc := sx_ble_t hc.1
        have hms := sx_ble_t hc.2
        have em : (pp ++ r).map (sx_tv P) = ((pp.reverse).map (sx_tv P)).reverse ++ r.map (sx_tv P) := by simp
        rw [em]
        have hrm : (sx_rm t d).frames + 1 ≤ R.frames ∧ 8 + (sx_ml t + 11) + (sx_rm t d).locals ≤ R.locals := by
          show d + 1 ≤ _ ∧ 8 + (sx_ml t + 11) + 48 * d ≤ _
          omega
        have hrun : va_Run p l e R s m args below meth c H locs cells slots (sx_mc t) (sx_ms t) (F0 m pc ls (((pp.reverse).map (sx_tv P)).reverse ++ r.map (sx_tv P))) (r.map (sx_tv P)) (sx_Qc P (fun v I2 G2 => f (mc - sx_mc t) (ms - sx_ms t) cs L (sx_psh v r) I2 G2) ((pp.reverse).map (sx_tv P)).toArray) (sx_A P) := by
          rcases lk1 with lk1 | lk1
          · refine va_runS ⟨hx, hb, hml, hown, hts⟩ (h l P) (va_cwS n hts (sx_goodIn ?_) rfl rfl rfl mh hrm) ⟨sx_blind _ _ _ _, sx_pre hRO hS hR⟩ rfl (by simp [hlen]) hl.1 rfl (sx_hw (sx_ble_t hr4)) hd ⟨by omega, by omega⟩
            intro w hw
            unfold va_wsS at hw
            rcases List.mem_append.mp hw with q | q
            · simp only [List.mem_cons, List.not_mem_nil, or_false] at q
              rcases q with rfl | rfl | rfl
              · exact lk1
              · exact lk2
              · exact lk3
            · exact sx_ww_in lk4 w q
          · exact va_runSN ⟨hx, hb, hml, hown, hts⟩ (h l P) ⟨va_cnB n hts (sx_goodIn (sx_ww_in lk4)) rfl rfl rfl (hRO.2.2.2.2.2.2.1 _ lk1) (hts _ lk3) mh hrm, hts _ lk2, trivial⟩ ⟨sx_blind _ _ _ _, sx_pre hRO hS hR⟩ rfl (by simp [hlen]) hl.1 rfl (sx_hw (sx_ble_t hr4)) hd ⟨by omega, by omega⟩
        exact sx_after C g1 g2 hS hl hmc hms hrun (fun v I2 G2 hk => N _ _ _ _ _ _ hk)
      · exact h.elim
    · exact h.elim
  · exact h.elim
theorem sx_s_invokespecial {i : Nat} (N : ∀ mc ms L st I G, f mc ms cs L st I G → sx_V j (d + 1) mc ms K npc L st I G) (ok : sx_ok j (.invokespecial i) pc npc ax cv) (h : sx_step j d K cd f (.invokespecial i) pc ax cv cs mc ms L st I G) : sx_V j (d + 1) mc ms K pc L st I G := by
  obtain ⟨hd, rfl, ok⟩ := ok
  simp only [sx_step, sx_stepG] at h
  split at h
  · rename_i t n c1 c2 ax'
    obtain ⟨rfl, rfl, lk, mh⟩ := ok _ _ _ _ _ rfl
    split at h
    · rename_i a as r hpop hc
      simp only [Bool.and_eq_true] at hc
      split at h
      · rename_i hr4
        obtain ⟨pp, rfl, hpp, hlen⟩ := sx_pop_eq _ _ _ _ _ hpop
        have epp : pp = as.reverse ++ [.ref a] := by
          have := congrArg List.reverse hpp
          simpa using this.symm
        subst epp
        intro P p l e R s m args below meth c mcT msT H locs cells slots ls C g1 g2 hS hR hl
        obtain ⟨hx, hb, hml, hown, hts, -, -, -, hfr, hlo, hce, hsl, hRO, -⟩ := id C
        obtain ⟨lk1, lk2, lk3, lk4, lk5, lk6, lk7⟩ := lk
        have hmc := sx_ble_t hc.1
        have hms := sx_ble_t hc.2
        have em : (as.reverse ++ [Value.ref a] ++ r).map (sx_tv P) = (as.map (sx_tv P)).reverse ++ Value.ref (sx_tr P a) :: r.map (sx_tv P) := by simp [sx_tv]
        rw [em]
        have hrm : (sx_rm t d).frames + 1 ≤ R.frames ∧ 8 + (sx_ml t + 11) + (sx_rm t d).locals ≤ R.locals := by
          show d + 1 ≤ _ ∧ 8 + (sx_ml t + 11) + 48 * d ≤ _
          omega
        have hln : (as.map (sx_tv P)).length = n - 1 := by
          simp only [List.length_append, List.length_reverse, List.length_cons, List.length_nil] at hlen
          simp only [List.length_map]; omega
        have hww : sx_ww t = Jvm.Cond.code (sx_nm t) (sx_by t) (sx_ml t) none :: sx_tb := by unfold sx_ww; rw [lk7]
        have hrun : va_Run p l e R s m args below meth c H locs cells slots (sx_mc t) (sx_ms t) (F0 m pc ls ((as.map (sx_tv P)).reverse ++ .ref (sx_tr P a) :: r.map (sx_tv P))) (r.map (sx_tv P)) (sx_Qc P (fun v I2 G2 => f (mc - sx_mc t) (ms - sx_ms t) cs L (sx_psh v r) I2 G2) (Value.ref (sx_tr P a) :: as.map (sx_tv P)).toArray) (sx_A P) := by
          rcases lk1 with lk1 | lk1
          · exact va_runI ⟨hx, hb, hml, hown, hts⟩ (h l P) (cwI (n - 1) hts (sx_goodIn (sx_ww_in lk4)) hww rfl rfl (hts _ lk3) (hts _ lk1) (hts _ lk2) lk6 mh hrm) ⟨sx_blind _ _ _ _, sx_pre hRO hS hR⟩ rfl hln hl.1 rfl (sx_hw (sx_ble_t hr4)) hd ⟨by omega, by omega⟩
          · exact va_runIN ⟨hx, hb, hml, hown, hts⟩ (h l P) ⟨va_cnB (n - 1) hts (sx_goodIn (sx_ww_in lk4)) hww rfl rfl (hRO.2.2.2.2.2.2.1 _ lk1) (hts _ lk3) mh hrm, lk6, hts _ lk2⟩ ⟨sx_blind _ _ _ _, sx_pre hRO hS hR⟩ rfl hln hl.1 rfl (sx_hw (sx_ble_t hr4)) hd ⟨by omega, by omega⟩
        exact sx_after C g1 g2 hS hl hmc hms hrun (fun v I2 G2 hk => N _ _ _ _ _ _ hk)
      · exact h.elim
    · exact h.elim
  · exact h.elim
theorem sx_callV {i t n ci2 : Nat} {a : Nat} {as r : List Value} {K' : sx_K} (hd : decode (sx_by j) pc = .ok (.invokevirtual i, 3)) (lk : sx_lkV (sx_nm j).cls i t) (mh : sx_mh t (n - 1)) (hlen : as.length = n - 1) (hr4 : r.length ≤ 4) (hmc : sx_mc t ≤ mc) (hms : sx_ms t ≤ ms)
    (hrc : ∀ (P : sx_P) (s : State) (H : Heap) (locs : List Loc), sx_RO P s s.heap → va_S (sx_A P) s.heap H locs → sx_Rel P I G s H → ∃ cellB : Cell, H[sx_tr P a]? = some cellB ∧ cellB.vm.isStatics = false ∧ s.vm.findClass (sx_nm t).cls = some cellB.cls)
    (h : sx_C t d (.ref a :: as) I G K') (kN : ∀ v I2 G2, K' v I2 G2 → sx_V j (d + 1) (mc - sx_mc t) (ms - sx_ms t) K (pc + 3) L (sx_psh v r) I2 G2) : sx_V j (d + 1) mc ms K pc L (as.reverse ++ [.ref a] ++ r) I G := by
  intro P p l e R s m args below meth c mcT msT H locs cells slots ls C g1 g2 hS hR hl
  obtain ⟨hx, hb, hml, hown, hts, -, -, -, hfr, hlo, hce, hsl, hRO, -⟩ := id C
  obtain ⟨lk1, lk2, lk3, lk4, lk5, lk6⟩ := lk
  have em : (as.reverse ++ [Value.ref a] ++ r).map (sx_tv P) = (as.map (sx_tv P)).reverse ++ Value.ref (sx_tr P a) :: r.map (sx_tv P) := by simp [sx_tv]
  rw [em]
  have hrm : (sx_rm t d).frames + 1 ≤ R.frames ∧ 8 + (sx_ml t + 11) + (sx_rm t d).locals ≤ R.locals := by
    show d + 1 ≤ _ ∧ 8 + (sx_ml t + 11) + 48 * d ≤ _
    omega
  have hrun : va_Run p l e R s m args below meth c H locs cells slots (sx_mc t) (sx_ms t) (F0 m pc ls ((as.map (sx_tv P)).reverse ++ .ref (sx_tr P a) :: r.map (sx_tv P))) (r.map (sx_tv P)) (sx_Qc P K' (Value.ref (sx_tr P a) :: as.map (sx_tv P)).toArray) (sx_A P) := by
    refine va_runV ⟨hx, hb, hml, hown, hts⟩ (h l P) (cwV (n - 1) hts (sx_goodIn ?_) rfl rfl rfl ⟨rfl, mh⟩ hrm) ⟨sx_blind _ _ _ _, hrc P s H locs hRO hS hR, sx_pre hRO hS hR⟩ rfl (by simp [hlen]) hl.1 rfl (sx_hw hr4) hd ⟨by omega, by omega⟩
    intro w hw
    unfold wsV at hw
    rcases List.mem_append.mp hw with q | q
    · simp only [List.mem_cons, List.not_mem_nil, or_false] at q
      rcases q with rfl | rfl | rfl | rfl
      · exact lk1
      · exact lk2
      · exact lk6
      · exact lk3
    · exact sx_ww_in lk4 w q
  exact sx_after C g1 g2 hS hl hmc hms hrun kN
theorem sx_s_invokevirtual {i : Nat} (N : ∀ mc ms L st I G, f mc ms cs L st I G → sx_V j (d + 1) mc ms K npc L st I G) (ok : sx_ok j (.invokevirtual i) pc npc ax cv) (h : sx_step j d K cd f (.invokevirtual i) pc ax cv cs mc ms L st I G) : sx_V j (d + 1) mc ms K pc L st I G := by
  obtain ⟨hd, rfl, ok⟩ := ok
  simp only [sx_step, sx_stepG] at h
  split at h
  · rename_i t n c1 c2 ci ax'
    obtain ⟨rfl, rfl, lk, mh, okA, okB⟩ := ok _ _ _ _ _ _ rfl
    split at h
    · rename_i a as r hpop hc
      simp only [Bool.and_eq_true] at hc
      obtain ⟨pp, rfl, hpp, hlen⟩ := sx_pop_eq _ _ _ _ _ hpop
      have epp : pp = as.reverse ++ [.ref a] := by
        have := congrArg List.reverse hpp
        simpa using this.symm
      subst epp
      have hln : as.length = n - 1 := by
        simp only [List.length_append, List.length_reverse, List.length_cons, List.length_nil] at hlen
        omega
      split at h
      · rename_i ci2 n2 hr4 hal hsh
        split at h
        · rename_i hci
          have hci := Nat.eq_of_beq_eq_true hci
          subst hci
          refine sx_callV (n := n) (ci2 := 0) hd lk mh hln (sx_ble_t hr4) (sx_ble_t hc.1) (sx_ble_t hc.2) (fun P s H locs hRO hS hR => ?_) h (fun v I2 G2 hk => N _ _ _ _ _ _ hk)
          obtain ⟨h15, w, hw, hwn⟩ := sx_sh_cls hR.2.2.2.2.1 hsh
          have hlt : ci < 8 := (List.getElem?_eq_some_iff.mp hw).1
          obtain ⟨w', hw', hwc⟩ := okA hlt
          cases hw.symm.trans hw'
          have hws := sx_ws_at (P := P) (I := I) (G := G) h15 (sx_al_lt hR.2.2.2.1 hal)
          rw [hsh] at hws
          rw [← hwc]
          exact va_recv hR.1 hR.2.1 hw hws
        · exact h.elim
      · rename_i si n2 hr4 hal hsh
        split at h
        · rename_i hci
          have hci := Nat.eq_of_beq_eq_true hci
          subst hci
          refine sx_callV (n := n) (ci2 := 0) hd lk mh hln (sx_ble_t hr4) (sx_ble_t hc.1) (sx_ble_t hc.2) (fun P s H locs hRO hS hR => ?_) h (fun v I2 G2 hk => N _ _ _ _ _ _ hk)
          obtain ⟨hsi, rfl⟩ := sx_sh_str hR.2.2.2.2.1 hsh
          rw [show sx_tr P (2 + si) = P.1 (2 + si) from if_pos (by omega), okB rfl]
          exact vk_recv (adK := fun i => P.1 (2 + i)) (i := si) hRO.2.2.2.2.2.1 hsi hS
        · exact h.elim
      · exact h.elim
    · exact h.elim
  · exact h.elim
/-! ===== returns ===== -/
theorem sx_s_ireturn (ok : sx_ok j .ireturn pc npc ax cv) (h : sx_step j d K cd f .ireturn pc ax cv cs mc ms L st I G) : sx_V j (d + 1) mc ms K pc L st I G := by
  obtain ⟨hd, ok⟩ := ok
  have fin : ∀ (x : Int32) (ty : FieldType), sx_rt j = some ty → narrow ty (.int x) = .int x → K (some (.int x)) I G → sx_V j (d + 1) mc ms K pc L [.int x] I G := by
    intro x ty hty hn hk P p l e R s m args below meth c mcT msT H locs cells slots ls C g1 g2 hS hR hl
    obtain ⟨hx, hb, hml, hown, hts, hlocks, hrt, -⟩ := C
    refine W.widen (k := mcT) (n := msT) (by omega) (by omega) ?_
    exact W.zret hx hb (hrt.trans hty) hn (fun t ht hW => ⟨⟨some (.int x), I, G, rfl, hk, by rw [ht]; exact hR.to hW.alike⟩, hS.F ht⟩) hS.2.2 hd hlocks
  simp only [sx_step, sx_stepG] at h
  split at h
  · exact fin _ _ ((ok _ _ rfl).1 rfl) rfl h
  · rename_i x t r hne
    obtain ⟨o0, o1, o2, o3⟩ := ok _ _ rfl
    rcases (show t = 0 ∨ t = 1 ∨ t = 2 ∨ 2 < t by omega) with q | q | q | q
    · exact fin _ _ (o0 q) rfl h.2
    · subst q
      refine fin _ _ (o1 rfl) ?_ h.2
      rcases h.1 with e | e <;> rw [e] <;> rfl
    · subst q
      exact fin _ _ (o2 rfl) h.1 h.2
    · have h1 := h.1
      unfold sx_nrw at h1
      match t, q, h1 with
      | t + 3, _, h1 => exact fin _ _ (o3 (by omega)) h1 h.2
  · exact h.elim
theorem sx_s_areturn (ok : sx_ok j .areturn pc npc ax cv) (h : sx_step j d K cd f .areturn pc ax cv cs mc ms L st I G) : sx_V j (d + 1) mc ms K pc L st I G := by
  obtain ⟨hd, rt, hrt0, hrf⟩ := ok
  simp only [sx_step, sx_stepG] at h
  split at h
  · intro P p l e R s m args below meth c mcT msT H locs cells slots ls C g1 g2 hS hR hl
    obtain ⟨hx, hb, hml, hown, hts, hlocks, hrt, -⟩ := C
    refine W.widen (k := mcT) (n := msT) (by omega) (by omega) ?_
    exact W.aret hx hb (hrt.trans hrt0) hrf (Or.inr ⟨_, rfl⟩) (fun t ht hW => ⟨⟨some (.ref _), I, G, rfl, h, by rw [ht]; exact hR.to hW.alike⟩, hS.F ht⟩) hS.2.2 hd hlocks
  · intro P p l e R s m args below meth c mcT msT H locs cells slots ls C g1 g2 hS hR hl
    obtain ⟨hx, hb, hml, hown, hts, hlocks, hrt, -⟩ := C
    refine W.widen (k := mcT) (n := msT) (by omega) (by omega) ?_
    exact W.aret hx hb (hrt.trans hrt0) hrf (Or.inl rfl) (fun t ht hW => ⟨⟨some .null, I, G, rfl, h, by rw [ht]; exact hR.to hW.alike⟩, hS.F ht⟩) hS.2.2 hd hlocks
  · exact h.elim
theorem sx_s_return (ok : sx_ok j .return_ pc npc ax cv) (h : sx_step j d K cd f .return_ pc ax cv cs mc ms L st I G) : sx_V j (d + 1) mc ms K pc L st I G := by
  obtain ⟨hd, hrt0⟩ := ok
  simp only [sx_step, sx_stepG] at h
  split at h
  · intro P p l e R s m args below meth c mcT msT H locs cells slots ls C g1 g2 hS hR hl
    obtain ⟨hx, hb, hml, hown, hts, hlocks, hrt, -⟩ := C
    refine W.widen (k := mcT) (n := msT) (by omega) (by omega) ?_
    exact W.vret hx hb (hrt.trans hrt0) (fun t ht hW => ⟨⟨none, I, G, rfl, h, by rw [ht]; exact hR.to hW.alike⟩, hS.F ht⟩) hS.2.2 hd hlocks
  · exact h.elim
theorem sx_s_cut (h : sx_step j d K cd f .monitorenter pc ax cv cs mc ms L st I G) : sx_V j (d + 1) mc ms K pc L st I G := by
  intro P p l e R s m args below meth c mcT msT H locs cells slots ls C g1 g2 hS hR hl
  exact h P p l e R s m args below meth c mcT msT H locs cells slots ls C g1 g2 hS hR (hl.lv ax)
end
/-! ===== all steps together ===== -/
def sx_sq : List sx_E → Bool
  | e1 :: e2 :: r => Nat.beq e1.2.2.1 e2.2.1 && sx_sq (e2 :: r)
  | _ => true
def sx_oks (j : Nat) : List sx_E → Prop
  | [] => True
  | e :: r => sx_ok j e.1 e.2.1 e.2.2.1 e.2.2.2.1 e.2.2.2.2 ∧ sx_oks j r
def sx_suf (cd cs : List sx_E) : Prop := ∃ pre, cd = pre ++ cs
def sx_good (j d : Nat) (K : sx_K) (cd : List sx_E) (f : sx_T) : Prop := ∀ mc ms cs L st I G, f mc ms cs L st I G → ∃ e cs', cs = e :: cs' ∧ (sx_suf cd cs → sx_V j (d + 1) mc ms K e.2.1 L st I G)
theorem sx_oks_suf {j : Nat} : ∀ (pre cs : List sx_E), sx_oks j (pre ++ cs) → sx_oks j cs
  | [], _, h => h
  | _ :: pre, cs, h => sx_oks_suf pre cs h.2
theorem sx_sq_suf : ∀ (pre cs : List sx_E), sx_sq (pre ++ cs) = true → sx_sq cs = true
  | [], _, h => h
  | [e], [], h => rfl
  | [e], e2 :: r, h => by
    simp only [List.cons_append, List.nil_append, sx_sq, Bool.and_eq_true] at h
    exact h.2
  | e :: e2 :: pre, cs, h => by
    simp only [List.cons_append, sx_sq, Bool.and_eq_true] at h
    exact sx_sq_suf (e2 :: pre) cs h.2
theorem sx_at_suf {cd : List sx_E} : ∀ (r pre : List sx_E) (t : Nat) (e : sx_E) (cs : List sx_E), cd = pre ++ r → sx_at r t = e :: cs → sx_suf cd (e :: cs) ∧ e.2.1 = t
  | [], pre, t, e, cs, _, h => by simp [sx_at] at h
  | e0 :: r, pre, t, e, cs, hc, h => by
    unfold sx_at at h
    cases hb : Nat.beq e0.2.1 t with
    | true =>
      rw [hb] at h
      simp only [cond_true] at h
      have := Nat.eq_of_beq_eq_true hb
      cases h
      exact ⟨⟨pre, hc⟩, this⟩
    | false =>
      rw [hb] at h
      exact sx_at_suf r (pre ++ [e0]) t e cs (by rw [hc]; simp) h
set_option maxHeartbeats 4000000 in
theorem sx_step_ok {j d : Nat} {K : sx_K} {cd cs : List sx_E} {f : sx_T} (hf : sx_good j d K cd f) (hok : sx_oks j cd) (hsq : sx_sq cd = true) {op : Instr} {pc npc : Nat} {ax : List Nat} {cv : Value} {mc ms : Nat} {L : sx_L} {st : List Value} {I : sx_I} {G : sx_G}
    (hs : sx_suf cd ((op, pc, npc, ax, cv) :: cs)) (h : sx_step j d K cd f op pc ax cv cs mc ms L st I G) : sx_V j (d + 1) mc ms K pc L st I G := by
  obtain ⟨pre, hpre⟩ := hs
  have ok : sx_ok j op pc npc ax cv := (sx_oks_suf (j := j) pre ((op, pc, npc, ax, cv) :: cs) (by rw [← hpre]; exact hok)).1
  have hq : sx_sq ((op, pc, npc, ax, cv) :: cs) = true := sx_sq_suf pre _ (by rw [← hpre]; exact hsq)
  have N : ∀ mc ms L st I G, f mc ms cs L st I G → sx_V j (d + 1) mc ms K npc L st I G := by
    intro mc ms L st I G h
    obtain ⟨e, cs', rfl, hv⟩ := hf _ _ _ _ _ _ _ h
    simp only [sx_sq, Bool.and_eq_true] at hq
    have := Nat.eq_of_beq_eq_true hq.1
    rw [this]
    exact hv ⟨pre ++ [(op, pc, npc, ax, cv)], by rw [hpre]; simp⟩
  have J : ∀ t mc ms L st I G, f mc ms (sx_at cd t) L st I G → sx_V j (d + 1) mc ms K t L st I G := by
    intro t mc ms L st I G h
    obtain ⟨e, cs', he, hv⟩ := hf _ _ _ _ _ _ _ h
    obtain ⟨h1, h2⟩ := sx_at_suf (cd := cd) cd [] t e cs' rfl he
    rw [he] at hv
    rw [← h2]
    exact hv h1
  cases op with
  | nop => exact sx_s_nop N ok h
  | iload i => exact sx_s_iload N ok h
  | lload i => exact sx_s_lload N ok h
  | aload i => exact sx_s_aload N ok h
  | istore i => exact sx_s_istore N ok h
  | astore i => exact sx_s_astore N ok h
  | iinc i n => exact sx_s_iinc N ok h
  | iadd => exact sx_s_iadd N ok h
  | isub => exact sx_s_isub N ok h
  | imul => exact sx_s_imul N ok h
  | iand => exact sx_s_iand N ok h
  | ior => exact sx_s_ior N ok h
  | ishl => exact sx_s_ishl N ok h
  | ishr => exact sx_s_ishr N ok h
  | iushr => exact sx_s_iushr N ok h
  | idiv => exact sx_s_idiv N ok h
  | irem => exact sx_s_irem N ok h
  | ineg => exact sx_s_ineg N ok h
  | i2l => exact sx_s_i2l N ok h
  | i2b => exact sx_s_i2b N ok h
  | i2s => exact sx_s_i2s N ok h
  | i2c => exact sx_s_i2c N ok h
  | ladd => exact sx_s_ladd N ok h
  | lcmp => exact sx_s_lcmp N ok h
  | dup => exact sx_s_dup N ok h
  | dup2 => exact sx_s_dup2 N ok h
  | pop => exact sx_s_pop N ok h
  | ifCond c o => exact sx_s_ifCond N J ok h
  | if_icmp c o => exact sx_s_if_icmp N J ok h
  | goto o => exact sx_s_goto J ok h
  | ifnonnull o => exact sx_s_ifnonnull N J ok h
  | tableswitch a b c e => exact sx_s_tableswitch J ok h
  | lookupswitch a b => exact sx_s_lookupswitch J ok h
  | getfield i => exact sx_s_getfield N ok h
  | putfield i => exact sx_s_putfield N ok h
  | iaload => exact sx_s_iaload N ok h
  | baload => exact sx_s_baload N ok h
  | iastore => exact sx_s_iastore N ok h
  | bastore => exact sx_s_bastore N ok h
  | aaload => exact sx_s_aaload N ok h
  | aastore => exact sx_s_aastore N ok h
  | arraylength => exact sx_s_arraylength N ok h
  | ret o => exact sx_s_ret N ok h
  | jsr o => exact sx_s_jsr N ok h
  | new i => exact sx_s_new N ok h
  | newarray i => exact sx_s_newarray N ok h
  | anewarray i => exact sx_s_anewarray N ok h
  | invokestatic i => exact sx_s_invokestatic N ok h
  | invokespecial i => exact sx_s_invokespecial N ok h
  | invokevirtual i => exact sx_s_invokevirtual N ok h
  | ireturn => exact sx_s_ireturn ok h
  | areturn => exact sx_s_areturn ok h
  | return_ => exact sx_s_return ok h
  | monitorenter => exact sx_s_cut h
  | _ => exact (show False from h).elim
theorem sx_sym_good {j d : Nat} {K : sx_K} {cd : List sx_E} (hok : sx_oks j cd) (hsq : sx_sq cd = true) : ∀ n, sx_good j d K cd (sx_sym j d K cd n)
  | 0 => by
    intro mc ms cs L st I G h
    cases cs with
    | nil => exact h.elim
    | cons e cs => exact ⟨e, cs, rfl, fun _ => h⟩
  | n + 1 => by
    intro mc ms cs L st I G h
    cases cs with
    | nil => exact h.elim
    | cons e cs =>
      obtain ⟨op, pc, npc, ax, cv⟩ := e
      exact ⟨_, cs, rfl, fun hs => sx_step_ok (sx_sym_good hok hsq n) hok hsq hs h⟩
/-- a method's code as it should be -/
def sx_mok (j : Nat) (cd : List sx_E) : Prop := sx_oks j cd ∧ sx_sq cd = true
def sx_isc : Instr → Bool
  | .monitorenter => true
  | _ => false
/-- from a place of the code, past the mark of a loop's head -/
def sx_fr (cd : List sx_E) (t : Nat) : List sx_E := match sx_at cd t with
  | e :: r => (match sx_isc e.1 with | true => r | false => e :: r)
  | [] => []
theorem sx_go0 {j d mc ms : Nat} {K : sx_K} {cd : List sx_E} {t : Nat} {L : sx_L} {st : List Value} {I : sx_I} {G : sx_G} (hm : sx_mok j cd) (n : Nat) (hc : (match sx_at cd t with | e :: r => (match sx_isc e.1 with | true => Nat.beq e.2.2.1 t | false => true) | [] => false) = true) (h : sx_sym j d K cd n mc ms (sx_fr cd t) L st I G) : sx_V j (d + 1) mc ms K t L st I G := by
  obtain ⟨hok, hsq⟩ := hm
  unfold sx_fr at h
  cases he : sx_at cd t with
  | nil => rw [he] at hc; simp at hc
  | cons e r =>
    obtain ⟨⟨pre, hpre⟩, h2⟩ := sx_at_suf (cd := cd) cd [] t e r rfl he
    rw [he] at h hc
    simp only at h hc
    cases hi : sx_isc e.1 with
    | false =>
      rw [hi] at h
      simp only at h
      obtain ⟨e', cs', h3, h4⟩ := sx_sym_good hok hsq n _ _ _ _ _ _ _ h
      cases h3
      rw [← h2]
      exact h4 ⟨pre, hpre⟩
    | true =>
      rw [hi] at h hc
      simp only at h hc
      obtain ⟨e', cs', h3, h4⟩ := sx_sym_good hok hsq n _ _ _ _ _ _ _ h
      subst h3
      have hq := sx_sq_suf pre _ (by rw [← hpre]; exact hsq)
      simp only [sx_sq, Bool.and_eq_true] at hq
      have q1 := Nat.eq_of_beq_eq_true hq.1
      have q2 := Nat.eq_of_beq_eq_true hc
      rw [← q2, q1]
      exact h4 ⟨pre ++ [e], by rw [hpre]; simp⟩
theorem sx_go {j d mc ms : Nat} {K : sx_K} {cd : List sx_E} {t : Nat} {L : sx_L} {st : List Value} {I : sx_I} {G : sx_G} (hm : sx_mok j cd) (n : Nat) (hc : (match sx_at cd t with | e :: r => (match sx_isc e.1 with | true => Nat.beq e.2.2.1 t | false => true) | [] => false) = true)
    (h : ∀ (VV : sx_VT) (CC : sx_CT), (∀ mc ms pc L st I G, sx_V j (d + 1) mc ms K pc L st I G → VV mc ms pc L st I G) → (∀ t as I G K2, sx_C t d as I G K2 → CC t as I G K2) → sx_symG VV CC K cd n mc ms (sx_fr cd t) L st I G) : sx_V j (d + 1) mc ms K t L st I G :=
  sx_go0 hm n hc (h _ _ (fun _ _ _ _ _ _ _ q => q) (fun _ _ _ _ _ q => q))
def sx_wz : List Value → Nat
  | [] => 0
  | v :: r => (sx_w2 v 0) + sx_wz r
theorem sx_wz_eq (P : sx_P) (hO : sx_op P) : ∀ as : List Value, (lg_sl (as.map (sx_tv P))).length = sx_wz as
  | [] => rfl
  | v :: r => by
    have ih := sx_wz_eq P hO r
    have e : lg_sl ((v :: r).map (sx_tv P)) = (if (sx_tv P v).category = 2 then [.val (sx_tv P v), .second] else [.val (sx_tv P v)]) ++ lg_sl (r.map (sx_tv P)) := by
      simp [lg_sl]
    rw [e, List.length_append, ih]
    show _ = sx_w2 v 0 + sx_wz r
    congr 1
    cases v with
    | float x => rcases hO with q | ⟨t, q⟩ <;> simp [sx_tv, q, Value.category, sx_w2]
    | _ => simp [sx_tv, Value.category, sx_w2]
/-- a method's contract out of its walk from the entry -/
theorem sx_enter {j d : Nat} {as : List Value} {I : sx_I} {G : sx_G} {K : sx_K} (hpl : plainName (sx_nm j).cls = true) (hz : sx_wz as ≤ sx_ml j) (h : sx_V j d (sx_mc j) (sx_ms j) K 0 (sx_args 0 as) [] I G) : sx_C j d as I G K := by
  intro l P
  refine Met.ofW (cc := sx_by j) (maxL := sx_ml j) (ret := sx_rt j) hpl rfl ?_
  intro p e s m args below meth c s₁ B hml hv
  obtain ⟨rfl, hRO, hR⟩ := hv
  have hO : sx_op P := hRO.2.2.2.1.2
  have hts0 := atoms_spec (ws := sx_ww j) B.pre
  have hl := lv_entry (as.map (sx_tv P)) (n := sx_ml j) (by rw [sx_wz_eq P hO]; exact hz)
  rw [lg_entry_eq]
  refine h P p l e _ s m _ below meth c (sx_mc j) (sx_ms j) s.heap [] 0 0 _ ⟨B.exec, B.bytes, hml, findClass_of_methodNamed B.named, fun w hw => hts0 w (List.mem_cons_of_mem _ hw), B.notSynchronized, B.returns, fun hct => ?_, Nat.le_refl _, Nat.le_refl _, Nat.le_refl _, Nat.le_refl _, hRO, ?_⟩ (by omega) (by omega) va_S.rf hR ⟨hl.1, hl.2.1, fun i v hi => hl.2.2 (i, sx_tv P v) (sx_args_lk P as 0 i v hO hi)⟩
  · exact (name_of_methodNamed B.named B.method).1.trans hct
  · rw [hR.2.2.1]; omega
/-- a weaker end -/
theorem sx_C.mono {j d : Nat} {as : List Value} {I : sx_I} {G : sx_G} {K K' : sx_K} (h : sx_C j d as I G K) (hk : ∀ v I G, K v I G → K' v I G) : sx_C j d as I G K' := by
  intro l P
  refine MetFree.mono (h l P) (fun _ _ q => q) (fun _ _ _ _ _ q => q) (fun a st o t _ q => ?_)
  obtain ⟨⟨⟨v, I2, G2, e1, e2, e3⟩, h2⟩, h3⟩ := q
  exact ⟨⟨⟨v, I2, G2, e1, hk _ _ _ e2, e3⟩, h2⟩, h3⟩
