theorem fa_eqx (a b : Int32) : a = b ↔ a.toInt = b.toInt := ⟨fun h => by rw [h], fun h => Int32.toInt_inj.mp h⟩
section
variable {j d mc ms : Nat} {K : sx_K} {pc npc : Nat} {L : sx_L} {I : sx_I} {G : sx_G} {cs cd : List sx_E} {f : sx_T} {ax : List Nat} {cv : Value} {st : List Value}
theorem sx_v_go {pc' : Nat} {st st' : List Value}
    (h : ∀ (P : sx_P) (p : Program) (l : Launch) (e : Env) (R : Room) (s : State) (m : MethodId) (args : Array Value) (below : List Frame) (meth : Method) (c : Code) (H : Heap) (locs : List Loc) (cells slots : Nat) (Q : State → Prop) (ls : Array Slot) (mcT msT : Nat), sx_Cx j d mcT msT P p R s m args meth c → p.tables.exec = Jvm.exec → c.code = sx_by j → sx_LH P ls (sx_ml j) L → va_S (sx_A P) s.heap H locs →
      sx_Rel P I G s H → W p l e R s m args below meth c H locs cells slots Q (F0 m pc' ls (st'.map (sx_tv P))) → W p l e R s m args below meth c H locs cells slots Q (F0 m pc ls (st.map (sx_tv P))))
    (k : sx_V j d mc ms K pc' L st' I G) : sx_V j d mc ms K pc L st I G := by
  intro P p l e R s m args below meth c mcT msT H locs cells slots ls C h1 h2 hS hR hl
  exact h P p l e R s m args below meth c H locs cells slots _ ls mcT msT C C.1 C.2.1 hl hS hR (k P p l e R s m args below meth c mcT msT H locs cells slots ls C h1 h2 hS hR hl)
theorem sx_s_iadd (N : ∀ mc ms L st I G, f mc ms cs L st I G → sx_V j (d + 1) mc ms K npc L st I G) (ok : sx_ok j .iadd pc npc ax cv) (h : sx_step j d K cd f .iadd pc ax cv cs mc ms L st I G) : sx_V j (d + 1) mc ms K pc L st I G := by
  obtain ⟨hd, rfl⟩ := ok
  simp only [sx_step, sx_stepG] at h
  split at h
  · exact sx_v_go (fun P p l e R s m args below meth c H locs cells slots Q ls mcT msT C hx hb hl hS hR k => lv_iadd hx hb hd k) (N _ _ _ _ _ _ h)
  · exact h.elim
theorem sx_s_isub (N : ∀ mc ms L st I G, f mc ms cs L st I G → sx_V j (d + 1) mc ms K npc L st I G) (ok : sx_ok j .isub pc npc ax cv) (h : sx_step j d K cd f .isub pc ax cv cs mc ms L st I G) : sx_V j (d + 1) mc ms K pc L st I G := by
  obtain ⟨hd, rfl⟩ := ok
  simp only [sx_step, sx_stepG] at h
  split at h
  · exact sx_v_go (fun P p l e R s m args below meth c H locs cells slots Q ls mcT msT C hx hb hl hS hR k => lv_isub hx hb hd k) (N _ _ _ _ _ _ h)
  · exact h.elim
theorem sx_s_imul (N : ∀ mc ms L st I G, f mc ms cs L st I G → sx_V j (d + 1) mc ms K npc L st I G) (ok : sx_ok j .imul pc npc ax cv) (h : sx_step j d K cd f .imul pc ax cv cs mc ms L st I G) : sx_V j (d + 1) mc ms K pc L st I G := by
  obtain ⟨hd, rfl⟩ := ok
  simp only [sx_step, sx_stepG] at h
  split at h
  · exact sx_v_go (fun P p l e R s m args below meth c H locs cells slots Q ls mcT msT C hx hb hl hS hR k => lv_imul hx hb hd k) (N _ _ _ _ _ _ h)
  · exact h.elim
theorem sx_s_iand (N : ∀ mc ms L st I G, f mc ms cs L st I G → sx_V j (d + 1) mc ms K npc L st I G) (ok : sx_ok j .iand pc npc ax cv) (h : sx_step j d K cd f .iand pc ax cv cs mc ms L st I G) : sx_V j (d + 1) mc ms K pc L st I G := by
  obtain ⟨hd, rfl⟩ := ok
  simp only [sx_step, sx_stepG] at h
  split at h
  · exact sx_v_go (fun P p l e R s m args below meth c H locs cells slots Q ls mcT msT C hx hb hl hS hR k => lv_iand hx hb hd k) (N _ _ _ _ _ _ h)
  · exact h.elim
theorem sx_s_ior (N : ∀ mc ms L st I G, f mc ms cs L st I G → sx_V j (d + 1) mc ms K npc L st I G) (ok : sx_ok j .ior pc npc ax cv) (h : sx_step j d K cd f .ior pc ax cv cs mc ms L st I G) : sx_V j (d + 1) mc ms K pc L st I G := by
  obtain ⟨hd, rfl⟩ := ok
  simp only [sx_step, sx_stepG] at h
  split at h
  · exact sx_v_go (fun P p l e R s m args below meth c H locs cells slots Q ls mcT msT C hx hb hl hS hR k => lv_ior hx hb hd k) (N _ _ _ _ _ _ h)
  · exact h.elim
theorem sx_s_ishl (N : ∀ mc ms L st I G, f mc ms cs L st I G → sx_V j (d + 1) mc ms K npc L st I G) (ok : sx_ok j .ishl pc npc ax cv) (h : sx_step j d K cd f .ishl pc ax cv cs mc ms L st I G) : sx_V j (d + 1) mc ms K pc L st I G := by
  obtain ⟨hd, rfl⟩ := ok
  simp only [sx_step, sx_stepG] at h
  split at h
  · exact sx_v_go (fun P p l e R s m args below meth c H locs cells slots Q ls mcT msT C hx hb hl hS hR k => lv_ishl hx hb hd k) (N _ _ _ _ _ _ h)
  · exact h.elim
theorem sx_s_ishr (N : ∀ mc ms L st I G, f mc ms cs L st I G → sx_V j (d + 1) mc ms K npc L st I G) (ok : sx_ok j .ishr pc npc ax cv) (h : sx_step j d K cd f .ishr pc ax cv cs mc ms L st I G) : sx_V j (d + 1) mc ms K pc L st I G := by
  obtain ⟨hd, rfl⟩ := ok
  simp only [sx_step, sx_stepG] at h
  split at h
  · exact sx_v_go (fun P p l e R s m args below meth c H locs cells slots Q ls mcT msT C hx hb hl hS hR k => lv_ishr hx hb hd k) (N _ _ _ _ _ _ h)
  · exact h.elim
theorem sx_s_ineg (N : ∀ mc ms L st I G, f mc ms cs L st I G → sx_V j (d + 1) mc ms K npc L st I G) (ok : sx_ok j .ineg pc npc ax cv) (h : sx_step j d K cd f .ineg pc ax cv cs mc ms L st I G) : sx_V j (d + 1) mc ms K pc L st I G := by
  obtain ⟨hd, rfl⟩ := ok
  simp only [sx_step, sx_stepG] at h
  split at h
  · exact sx_v_go (fun P p l e R s m args below meth c H locs cells slots Q ls mcT msT C hx hb hl hS hR k => lv_ineg hx hb hd k) (N _ _ _ _ _ _ h)
  · exact h.elim
theorem sx_s_ladd (N : ∀ mc ms L st I G, f mc ms cs L st I G → sx_V j (d + 1) mc ms K npc L st I G) (ok : sx_ok j .ladd pc npc ax cv) (h : sx_step j d K cd f .ladd pc ax cv cs mc ms L st I G) : sx_V j (d + 1) mc ms K pc L st I G := by
  obtain ⟨hd, rfl⟩ := ok
  simp only [sx_step, sx_stepG] at h
  split at h
  · exact sx_v_go (fun P p l e R s m args below meth c H locs cells slots Q ls mcT msT C hx hb hl hS hR k => lv_ladd hx hb hd k) (N _ _ _ _ _ _ h)
  · exact h.elim
theorem sx_s_iushr (N : ∀ mc ms L st I G, f mc ms cs L st I G → sx_V j (d + 1) mc ms K npc L st I G) (ok : sx_ok j .iushr pc npc ax cv) (h : sx_step j d K cd f .iushr pc ax cv cs mc ms L st I G) : sx_V j (d + 1) mc ms K pc L st I G := by
  obtain ⟨hd, rfl⟩ := ok
  simp only [sx_step, sx_stepG] at h
  split at h
  · exact sx_v_go (fun P p l e R s m args below meth c H locs cells slots Q ls mcT msT C hx hb hl hS hR k => lv_iushr hx hb hd rfl k) (N _ _ _ _ _ _ h)
  · exact h.elim
theorem sx_s_i2l (N : ∀ mc ms L st I G, f mc ms cs L st I G → sx_V j (d + 1) mc ms K npc L st I G) (ok : sx_ok j .i2l pc npc ax cv) (h : sx_step j d K cd f .i2l pc ax cv cs mc ms L st I G) : sx_V j (d + 1) mc ms K pc L st I G := by
  obtain ⟨hd, rfl⟩ := ok
  simp only [sx_step, sx_stepG] at h
  split at h
  · exact sx_v_go (fun P p l e R s m args below meth c H locs cells slots Q ls mcT msT C hx hb hl hS hR k => lv_i2l hx hb hd rfl k) (N _ _ _ _ _ _ h)
  · exact h.elim
theorem sx_s_i2b (N : ∀ mc ms L st I G, f mc ms cs L st I G → sx_V j (d + 1) mc ms K npc L st I G) (ok : sx_ok j .i2b pc npc ax cv) (h : sx_step j d K cd f .i2b pc ax cv cs mc ms L st I G) : sx_V j (d + 1) mc ms K pc L st I G := by
  obtain ⟨hd, rfl⟩ := ok
  simp only [sx_step, sx_stepG] at h
  split at h
  · exact sx_v_go (fun P p l e R s m args below meth c H locs cells slots Q ls mcT msT C hx hb hl hS hR k => lv_i2b hx hb hd rfl k) (N _ _ _ _ _ _ h)
  · exact h.elim
theorem sx_s_i2s (N : ∀ mc ms L st I G, f mc ms cs L st I G → sx_V j (d + 1) mc ms K npc L st I G) (ok : sx_ok j .i2s pc npc ax cv) (h : sx_step j d K cd f .i2s pc ax cv cs mc ms L st I G) : sx_V j (d + 1) mc ms K pc L st I G := by
  obtain ⟨hd, rfl⟩ := ok
  simp only [sx_step, sx_stepG] at h
  split at h
  · exact sx_v_go (fun P p l e R s m args below meth c H locs cells slots Q ls mcT msT C hx hb hl hS hR k => lv_i2s hx hb hd rfl k) (N _ _ _ _ _ _ h)
  · exact h.elim
theorem sx_s_i2c (N : ∀ mc ms L st I G, f mc ms cs L st I G → sx_V j (d + 1) mc ms K npc L st I G) (ok : sx_ok j .i2c pc npc ax cv) (h : sx_step j d K cd f .i2c pc ax cv cs mc ms L st I G) : sx_V j (d + 1) mc ms K pc L st I G := by
  obtain ⟨hd, rfl⟩ := ok
  simp only [sx_step, sx_stepG] at h
  split at h
  · exact sx_v_go (fun P p l e R s m args below meth c H locs cells slots Q ls mcT msT C hx hb hl hS hR k => lv_i2c hx hb hd rfl k) (N _ _ _ _ _ _ h)
  · exact h.elim
theorem sx_s_lcmp (N : ∀ mc ms L st I G, f mc ms cs L st I G → sx_V j (d + 1) mc ms K npc L st I G) (ok : sx_ok j .lcmp pc npc ax cv) (h : sx_step j d K cd f .lcmp pc ax cv cs mc ms L st I G) : sx_V j (d + 1) mc ms K pc L st I G := by
  obtain ⟨hd, rfl⟩ := ok
  simp only [sx_step, sx_stepG] at h
  split at h
  · exact sx_v_go (fun P p l e R s m args below meth c H locs cells slots Q ls mcT msT C hx hb hl hS hR k => W.lcmp hx hb hd k) (N _ _ _ _ _ _ h)
  · exact h.elim
theorem sx_s_idiv (N : ∀ mc ms L st I G, f mc ms cs L st I G → sx_V j (d + 1) mc ms K npc L st I G) (ok : sx_ok j .idiv pc npc ax cv) (h : sx_step j d K cd f .idiv pc ax cv cs mc ms L st I G) : sx_V j (d + 1) mc ms K pc L st I G := by
  obtain ⟨hd, rfl⟩ := ok
  simp only [sx_step, sx_stepG] at h
  split at h
  · exact sx_v_go (fun P p l e R s m args below meth c H locs cells slots Q ls mcT msT C hx hb hl hS hR k => lv_idiv hx hb hd h.1 k) (N _ _ _ _ _ _ h.2)
  · exact h.elim
theorem sx_s_irem (N : ∀ mc ms L st I G, f mc ms cs L st I G → sx_V j (d + 1) mc ms K npc L st I G) (ok : sx_ok j .irem pc npc ax cv) (h : sx_step j d K cd f .irem pc ax cv cs mc ms L st I G) : sx_V j (d + 1) mc ms K pc L st I G := by
  obtain ⟨hd, rfl⟩ := ok
  simp only [sx_step, sx_stepG] at h
  split at h
  · exact sx_v_go (fun P p l e R s m args below meth c H locs cells slots Q ls mcT msT C hx hb hl hS hR k => lv_irem hx hb hd h.1 k) (N _ _ _ _ _ _ h.2)
  · exact h.elim
theorem sx_s_dup (N : ∀ mc ms L st I G, f mc ms cs L st I G → sx_V j (d + 1) mc ms K npc L st I G) (ok : sx_ok j .dup pc npc ax cv) (h : sx_step j d K cd f .dup pc ax cv cs mc ms L st I G) : sx_V j (d + 1) mc ms K pc L st I G := by
  obtain ⟨hd, rfl⟩ := ok
  simp only [sx_step, sx_stepG] at h
  split at h
  · exact sx_v_go (fun P p l e R s m args below meth c H locs cells slots Q ls mcT msT C hx hb hl hS hR k => lv_dup hx hb hd rfl k) (N _ _ _ _ _ _ h)
  · exact sx_v_go (fun P p l e R s m args below meth c H locs cells slots Q ls mcT msT C hx hb hl hS hR k => lv_dup hx hb hd rfl k) (N _ _ _ _ _ _ h)
  · exact h.elim
theorem sx_s_dup2 (N : ∀ mc ms L st I G, f mc ms cs L st I G → sx_V j (d + 1) mc ms K npc L st I G) (ok : sx_ok j .dup2 pc npc ax cv) (h : sx_step j d K cd f .dup2 pc ax cv cs mc ms L st I G) : sx_V j (d + 1) mc ms K pc L st I G := by
  obtain ⟨hd, rfl⟩ := ok
  simp only [sx_step, sx_stepG] at h
  split at h
  · exact sx_v_go (fun P p l e R s m args below meth c H locs cells slots Q ls mcT msT C hx hb hl hS hR k => lv_dup2_11 hx hb hd rfl rfl k) (N _ _ _ _ _ _ h)
  · exact h.elim
theorem sx_s_pop (N : ∀ mc ms L st I G, f mc ms cs L st I G → sx_V j (d + 1) mc ms K npc L st I G) (ok : sx_ok j .pop pc npc ax cv) (h : sx_step j d K cd f .pop pc ax cv cs mc ms L st I G) : sx_V j (d + 1) mc ms K pc L st I G := by
  obtain ⟨hd, rfl⟩ := ok
  simp only [sx_step, sx_stepG] at h
  split at h
  · exact sx_v_go (fun P p l e R s m args below meth c H locs cells slots Q ls mcT msT C hx hb hl hS hR k => lv_pop hx hb hd rfl k) (N _ _ _ _ _ _ h)
  · exact sx_v_go (fun P p l e R s m args below meth c H locs cells slots Q ls mcT msT C hx hb hl hS hR k => lv_pop hx hb hd rfl k) (N _ _ _ _ _ _ h)
  · exact h.elim
theorem sx_s_nop (N : ∀ mc ms L st I G, f mc ms cs L st I G → sx_V j (d + 1) mc ms K npc L st I G) (ok : sx_ok j .nop pc npc ax cv) (h : sx_step j d K cd f .nop pc ax cv cs mc ms L st I G) : sx_V j (d + 1) mc ms K pc L st I G :=
  sx_v_go (fun P p l e R s m args below meth c H locs cells slots Q ls mcT msT C hx hb hl hS hR k => ok P p l e R s m args below meth c _ _ _ H locs cells slots Q ls _ C hS k) (N _ _ _ _ _ _ h)
theorem sx_s_iload {i : Nat} (N : ∀ mc ms L st I G, f mc ms cs L st I G → sx_V j (d + 1) mc ms K npc L st I G) (ok : sx_ok j (.iload i) pc npc ax cv) (h : sx_step j d K cd f (.iload i) pc ax cv cs mc ms L st I G) : sx_V j (d + 1) mc ms K pc L st I G := by
  simp only [sx_step, sx_stepG] at h
  split at h
  · rename_i hk
    rcases ok with ⟨hd, rfl⟩ | ⟨k4, hd, hi, rfl⟩
    · exact sx_v_go (fun P p l e R s m args below meth c H locs cells slots Q ls mcT msT C hx hb hl hS hR k => lv_iload hx hb hd (hl.2.2 _ _ hk) k) (N _ _ _ _ _ _ h)
    · exact sx_v_go (fun P p l e R s m args below meth c H locs cells slots Q ls mcT msT C hx hb hl hS hR k => lv_iload_n hx hb hd hi (hl.2.2 _ _ hk) k) (N _ _ _ _ _ _ h)
  · exact h.elim
theorem sx_s_lload {i : Nat} (N : ∀ mc ms L st I G, f mc ms cs L st I G → sx_V j (d + 1) mc ms K npc L st I G) (ok : sx_ok j (.lload i) pc npc ax cv) (h : sx_step j d K cd f (.lload i) pc ax cv cs mc ms L st I G) : sx_V j (d + 1) mc ms K pc L st I G := by
  simp only [sx_step, sx_stepG] at h
  split at h
  · rename_i hk
    rcases ok with ⟨hd, rfl⟩ | ⟨k4, hd, hi, rfl⟩
    · exact sx_v_go (fun P p l e R s m args below meth c H locs cells slots Q ls mcT msT C hx hb hl hS hR k => lv_lload hx hb hd (hl.2.2 _ _ hk) k) (N _ _ _ _ _ _ h)
    · exact sx_v_go (fun P p l e R s m args below meth c H locs cells slots Q ls mcT msT C hx hb hl hS hR k => lv_lload_n hx hb hd hi (hl.2.2 _ _ hk) k) (N _ _ _ _ _ _ h)
  · exact h.elim
theorem sx_s_aload {i : Nat} (N : ∀ mc ms L st I G, f mc ms cs L st I G → sx_V j (d + 1) mc ms K npc L st I G) (ok : sx_ok j (.aload i) pc npc ax cv) (h : sx_step j d K cd f (.aload i) pc ax cv cs mc ms L st I G) : sx_V j (d + 1) mc ms K pc L st I G := by
  simp only [sx_step, sx_stepG] at h
  split at h
  · rename_i hk
    rcases ok with ⟨hd, rfl⟩ | ⟨k4, hd, hi, rfl⟩
    · exact sx_v_go (fun P p l e R s m args below meth c H locs cells slots Q ls mcT msT C hx hb hl hS hR k => lv_aload hx hb hd (hl.2.2 _ _ hk) k) (N _ _ _ _ _ _ h)
    · exact sx_v_go (fun P p l e R s m args below meth c H locs cells slots Q ls mcT msT C hx hb hl hS hR k => lv_aload_n hx hb hd hi (hl.2.2 _ _ hk) k) (N _ _ _ _ _ _ h)
  · rename_i hk
    rcases ok with ⟨hd, rfl⟩ | ⟨k4, hd, hi, rfl⟩
    · exact sx_v_go (fun P p l e R s m args below meth c H locs cells slots Q ls mcT msT C hx hb hl hS hR k => lv_aloadN hx hb hd (hl.2.2 _ _ hk) k) (N _ _ _ _ _ _ h)
    · exact sx_v_go (fun P p l e R s m args below meth c H locs cells slots Q ls mcT msT C hx hb hl hS hR k => lv_aload_nN hx hb hd hi (hl.2.2 _ _ hk) k) (N _ _ _ _ _ _ h)
  · exact h.elim
theorem sx_s_istore {i : Nat} (N : ∀ mc ms L st I G, f mc ms cs L st I G → sx_V j (d + 1) mc ms K npc L st I G) (ok : sx_ok j (.istore i) pc npc ax cv) (h : sx_step j d K cd f (.istore i) pc ax cv cs mc ms L st I G) : sx_V j (d + 1) mc ms K pc L st I G := by
  obtain ⟨hi0, ok⟩ := ok
  simp only [sx_step, sx_stepG] at h
  split at h
  · split at h
    · rename_i hn
      have kN := N _ _ _ _ _ _ h
      intro P p l e R s m args below meth c mcT msT H locs cells slots ls C h1 h2 hS hR hl
      rcases ok with ⟨hd, rfl⟩ | ⟨k4, hd, hi, rfl⟩
      · exact lv_istore C.1 C.2.1 hd hl.has hi0 rfl (fun ls' hl' => kN P p l e R s m args below meth c mcT msT H locs cells slots ls' C h1 h2 hS hR (sx_LH.put C.op hn hl'))
      · exact lv_istore_n C.1 C.2.1 hd hi hl.has hi0 rfl (fun ls' hl' => kN P p l e R s m args below meth c mcT msT H locs cells slots ls' C h1 h2 hS hR (sx_LH.put C.op hn hl'))
    · exact h.elim
  · exact h.elim
theorem sx_s_astore {i : Nat} (N : ∀ mc ms L st I G, f mc ms cs L st I G → sx_V j (d + 1) mc ms K npc L st I G) (ok : sx_ok j (.astore i) pc npc ax cv) (h : sx_step j d K cd f (.astore i) pc ax cv cs mc ms L st I G) : sx_V j (d + 1) mc ms K pc L st I G := by
  obtain ⟨hi0, ok⟩ := ok
  simp only [sx_step, sx_stepG] at h
  split at h
  · split at h
    · rename_i hn
      have kN := N _ _ _ _ _ _ h
      intro P p l e R s m args below meth c mcT msT H locs cells slots ls C h1 h2 hS hR hl
      rcases ok with ⟨hd, rfl⟩ | ⟨k4, hd, hi, rfl⟩
      · exact lv_astore C.1 C.2.1 hd hl.has hi0 rfl (fun ls' hl' => kN P p l e R s m args below meth c mcT msT H locs cells slots ls' C h1 h2 hS hR (sx_LH.put C.op hn hl'))
      · exact lv_astore_n C.1 C.2.1 hd hi hl.has hi0 rfl (fun ls' hl' => kN P p l e R s m args below meth c mcT msT H locs cells slots ls' C h1 h2 hS hR (sx_LH.put C.op hn hl'))
    · exact h.elim
  · split at h
    · rename_i hn
      have kN := N _ _ _ _ _ _ h
      intro P p l e R s m args below meth c mcT msT H locs cells slots ls C h1 h2 hS hR hl
      rcases ok with ⟨hd, rfl⟩ | ⟨k4, hd, hi, rfl⟩
      · exact lv_astoreN C.1 C.2.1 hd hl.has hi0 rfl (fun ls' hl' => kN P p l e R s m args below meth c mcT msT H locs cells slots ls' C h1 h2 hS hR (sx_LH.put C.op hn hl'))
      · exact lv_astore_nN C.1 C.2.1 hd hi hl.has hi0 rfl (fun ls' hl' => kN P p l e R s m args below meth c mcT msT H locs cells slots ls' C h1 h2 hS hR (sx_LH.put C.op hn hl'))
    · exact h.elim
  · exact h.elim
theorem sx_s_iinc {i : Nat} {n : Int} (N : ∀ mc ms L st I G, f mc ms cs L st I G → sx_V j (d + 1) mc ms K npc L st I G) (ok : sx_ok j (.iinc i n) pc npc ax cv) (h : sx_step j d K cd f (.iinc i n) pc ax cv cs mc ms L st I G) : sx_V j (d + 1) mc ms K pc L st I G := by
  obtain ⟨hi0, hd, rfl, hcv⟩ := ok
  subst hcv
  simp only [sx_step, sx_stepG] at h
  split at h
  · rename_i y x hk hy
    cases hy
    split at h
    · rename_i hn
      have kN := N _ _ _ _ _ _ h
      intro P p l e R s m args below meth c mcT msT H locs cells slots ls C h1 h2 hS hR hl
      obtain ⟨k, hk2⟩ := List.getElem?_of_mem (sx_lm_mem (P := P) hk)
      exact lv_iinc (k := k) C.1 C.2.1 hd hl.has hk2 rfl hi0 rfl (fun ls' hl' => kN P p l e R s m args below meth c mcT msT H locs cells slots ls' C h1 h2 hS hR (sx_LH.put C.op hn hl'))
    · exact h.elim
  · exact h.elim
theorem sx_s_ifCond {c0 : ClassFile.Cond} {o : Int} (N : ∀ mc ms L st I G, f mc ms cs L st I G → sx_V j (d + 1) mc ms K npc L st I G) (J : ∀ t mc ms L st I G, f mc ms (sx_at cd t) L st I G → sx_V j (d + 1) mc ms K t L st I G) (ok : sx_ok j (.ifCond c0 o) pc npc ax cv) (h : sx_step j d K cd f (.ifCond c0 o) pc ax cv cs mc ms L st I G) : sx_V j (d + 1) mc ms K pc L st I G := by
  obtain ⟨hd, rfl, ht⟩ := ok
  simp only [sx_step, sx_stepG] at h
  split at h
  · have ht := ht _ _ rfl
    obtain ⟨ha, hb2⟩ := h
    intro P p l e R s m args below meth c mcT msT H locs cells slots ls C h1 h2 hS hR hl
    have kt := fun q => J _ _ _ _ _ _ _ (ha q) P p l e R s m args below meth c mcT msT H locs cells slots ls C h1 h2 hS hR hl
    have kf := fun q => N _ _ _ _ _ _ (hb2 q) P p l e R s m args below meth c mcT msT H locs cells slots ls C h1 h2 hS hR hl
    cases c0
    · exact lv_if_eq C.1 C.2.1 hd ht kt kf
    · exact lv_if_ne C.1 C.2.1 hd ht kt kf
    · exact lv_if_lt C.1 C.2.1 hd ht kt kf
    · exact lv_if_ge C.1 C.2.1 hd ht kt kf
    · exact lv_if_gt C.1 C.2.1 hd ht kt kf
    · exact lv_if_le C.1 C.2.1 hd ht kt kf
  · exact h.elim
theorem sx_s_if_icmp {c0 : ClassFile.Cond} {o : Int} (N : ∀ mc ms L st I G, f mc ms cs L st I G → sx_V j (d + 1) mc ms K npc L st I G) (J : ∀ t mc ms L st I G, f mc ms (sx_at cd t) L st I G → sx_V j (d + 1) mc ms K t L st I G) (ok : sx_ok j (.if_icmp c0 o) pc npc ax cv) (h : sx_step j d K cd f (.if_icmp c0 o) pc ax cv cs mc ms L st I G) : sx_V j (d + 1) mc ms K pc L st I G := by
  obtain ⟨hd, rfl, ht⟩ := ok
  simp only [sx_step, sx_stepG] at h
  split at h
  · have ht := ht _ _ rfl
    obtain ⟨ha, hb2⟩ := h
    intro P p l e R s m args below meth c mcT msT H locs cells slots ls C h1 h2 hS hR hl
    have kt := fun q => J _ _ _ _ _ _ _ (ha q) P p l e R s m args below meth c mcT msT H locs cells slots ls C h1 h2 hS hR hl
    have kf := fun q => N _ _ _ _ _ _ (hb2 q) P p l e R s m args below meth c mcT msT H locs cells slots ls C h1 h2 hS hR hl
    cases c0
    · exact lv_icmp_eq C.1 C.2.1 hd ht kt kf
    · exact lv_icmp_ne C.1 C.2.1 hd ht kt kf
    · exact lv_icmp_lt C.1 C.2.1 hd ht kt kf
    · exact lv_icmp_ge C.1 C.2.1 hd ht kt kf
    · exact lv_icmp_gt C.1 C.2.1 hd ht kt kf
    · exact lv_icmp_le C.1 C.2.1 hd ht kt kf
  · exact h.elim
theorem sx_s_goto {o : Int} (J : ∀ t mc ms L st I G, f mc ms (sx_at cd t) L st I G → sx_V j (d + 1) mc ms K t L st I G) (ok : sx_ok j (.goto o) pc npc ax cv) (h : sx_step j d K cd f (.goto o) pc ax cv cs mc ms L st I G) : sx_V j (d + 1) mc ms K pc L st I G := by
  obtain ⟨hd, ht⟩ := ok
  simp only [sx_step, sx_stepG] at h
  split at h
  · exact sx_v_go (fun P p l e R s m args below meth c H locs cells slots Q ls mcT msT C hx hb hl hS hR k => lv_goto hx hb hd (ht _ _ rfl) k) (J _ _ _ _ _ _ _ h)
  · exact h.elim
theorem sx_s_ifnonnull {o : Int} (N : ∀ mc ms L st I G, f mc ms cs L st I G → sx_V j (d + 1) mc ms K npc L st I G) (J : ∀ t mc ms L st I G, f mc ms (sx_at cd t) L st I G → sx_V j (d + 1) mc ms K t L st I G) (ok : sx_ok j (.ifnonnull o) pc npc ax cv) (h : sx_step j d K cd f (.ifnonnull o) pc ax cv cs mc ms L st I G) : sx_V j (d + 1) mc ms K pc L st I G := by
  obtain ⟨hd, rfl, ht⟩ := ok
  simp only [sx_step, sx_stepG] at h
  split at h
  · exact sx_v_go (fun P p l e R s m args below meth c H locs cells slots Q ls mcT msT C hx hb hl hS hR k => lv_ifnonnull hx hb hd (ht _ _ rfl) k) (J _ _ _ _ _ _ _ h)
  · exact sx_v_go (fun P p l e R s m args below meth c H locs cells slots Q ls mcT msT C hx hb hl hS hR k => lv_ifnonnullN hx hb hd k) (N _ _ _ _ _ _ h)
  · exact h.elim
theorem sx_tsw_in {x : Int32} {k : Nat → Prop} {df pc : Nat} : ∀ (ts : List Nat) (os : List Int) (i : Nat), sx_tgs pc ts os → sx_tsw x k df i ts → i + os.length < 2 ^ 31 → (∃ (u t : Nat) (o : Int), x = nI (i + u) ∧ os[u]? = some o ∧ (pc : Int) + o = (t : Int) ∧ k t) ∨ ((∀ u, u < os.length → ¬ x = nI (i + u)) ∧ k df)
  | [], [], i, _, h, _ => Or.inr ⟨fun u hu => absurd hu (by simp), h⟩
  | [], _ :: _, i, hg, _, _ => hg.elim
  | t :: ts, [], i, hg, _, _ => hg.elim
  | t :: ts, o :: os, i, hg, h, hb => by
    obtain ⟨h1, h2⟩ := h
    by_cases hx : x = nI i
    · exact Or.inl ⟨0, t, o, hx, rfl, hg.1, h1 hx⟩
    · simp only [List.length_cons] at hb
      rcases sx_tsw_in ts os (i + 1) hg.2 (h2 hx) (by omega) with ⟨u, t', o', e1, e2, e3, e4⟩ | ⟨e1, e2⟩
      · exact Or.inl ⟨u + 1, t', o', by rw [e1]; congr 1; omega, e2, e3, e4⟩
      · refine Or.inr ⟨fun u hu => ?_, e2⟩
        cases u with
        | zero => exact hx
        | succ u =>
          have := e1 u (by simp only [List.length_cons] at hu; omega)
          rwa [show i + (u + 1) = i + 1 + u by omega]
theorem sx_s_tableswitch {df lo hi : Int} {os : Array Int} (J : ∀ t mc ms L st I G, f mc ms (sx_at cd t) L st I G → sx_V j (d + 1) mc ms K t L st I G) (ok : sx_ok j (.tableswitch df lo hi os) pc npc ax cv) (h : sx_step j d K cd f (.tableswitch df lo hi os) pc ax cv cs mc ms L st I G) : sx_V j (d + 1) mc ms K pc L st I G := by
  obtain ⟨⟨len, hd⟩, ht⟩ := ok
  simp only [sx_step, sx_stepG] at h
  split at h
  · rename_i x r a t ts
    obtain ⟨hlo, hhi, hbd, htd, htg⟩ := ht _ _ _ rfl
    have hsz : os.toList.length = os.size := by simp
    rcases sx_tsw_in ts os.toList a htg h (by rw [hsz]; exact hbd) with ⟨u, t', o', e1, e2, e3, e4⟩ | ⟨e1, e2⟩
    · have hu : u < os.size := by
        have := (List.getElem?_eq_some_iff.mp e2).1
        omega
      have hxi : x.toInt = (a : Int) + u := by rw [e1, nI_toInt (by omega)]; omega
      refine sx_v_go (fun P p l e R s m args below meth c H locs cells slots Q ls mcT msT C hx hb hl hS hR k => lv_tableIn hx hb hd (by rw [hxi, hlo]; omega) (by rw [hxi]; omega) (off := o') ?_ e3 k) (J _ _ _ _ _ _ _ e4)
      rw [hxi, hlo, show ((a : Int) + u - a).toNat = u by omega]
      rw [← Array.getElem?_toList]; exact e2
    · refine sx_v_go (fun P p l e R s m args below meth c H locs cells slots Q ls mcT msT C hx hb hl hS hR k => lv_tableOut hx hb hd ?_ htd k) (J _ _ _ _ _ _ _ e2)
      rw [hsz] at e1
      rcases Int.lt_or_le x.toInt lo with q | q
      · exact Or.inl q
      · refine Or.inr ?_
        rcases Int.lt_or_le hi x.toInt with q2 | q2
        · exact q2
        · exfalso
          refine e1 (x.toInt - a).toNat (by omega) ?_
          have : a + (x.toInt - a).toNat < 2 ^ 31 := by omega
          rw [fa_eqx, nI_toInt this]
          omega
  · exact h.elim
theorem sx_lsw_in {x : Int32} {k : Nat → Prop} {df pc : Nat} {dfo : Int} (hdf : (pc : Int) + dfo = (df : Int)) : ∀ (os : List (Int × Int)) (ts : List Nat), sx_tgl pc ts os → sx_lsw x k df ts → ∃ (t : Nat), (pc : Int) + Op.lookupswitch.offset os dfo x.toInt = (t : Int) ∧ k t
  | [], [], _, h => ⟨df, hdf, h⟩
  | [], [_], hg, _ => hg.elim
  | [], _ :: _ :: _, hg, _ => hg.elim
  | _ :: _, [], hg, _ => hg.elim
  | _ :: _, [_], hg, _ => hg.elim
  | (oa, ob) :: os, i :: t :: ts, hg, h => by
    obtain ⟨g1, g2, g3, g4⟩ := hg
    obtain ⟨h1, h2⟩ := h
    simp only at g1 g3
    by_cases hx : x = nI i
    · refine ⟨t, ?_, h1 hx⟩
      rw [← g3]
      have : Op.lookupswitch.offset ((oa, ob) :: os) dfo x.toInt = ob := by
        rw [hx, nI_toInt g2, ← g1]
        simp [Op.lookupswitch.offset]
      rw [this]
    · obtain ⟨t', e1, e2⟩ := sx_lsw_in hdf os ts g4 (h2 hx)
      refine ⟨t', ?_, e2⟩
      rw [lv_osw (k := nI i) hx (by rw [nI_toInt g2, g1])]
      exact e1
theorem sx_s_lookupswitch {df : Int} {ps : Array (Int × Int)} (J : ∀ t mc ms L st I G, f mc ms (sx_at cd t) L st I G → sx_V j (d + 1) mc ms K t L st I G) (ok : sx_ok j (.lookupswitch df ps) pc npc ax cv) (h : sx_step j d K cd f (.lookupswitch df ps) pc ax cv cs mc ms L st I G) : sx_V j (d + 1) mc ms K pc L st I G := by
  obtain ⟨⟨len, hd⟩, hp, ht⟩ := ok
  simp only [sx_step, sx_stepG] at h
  split at h
  · obtain ⟨htd, htg⟩ := ht _ _ rfl
    obtain ⟨t', e1, e2⟩ := sx_lsw_in htd _ _ htg h
    exact sx_v_go (fun P p l e R s m args below meth c H locs cells slots Q ls mcT msT C hx hb hl hS hR k => lv_lookup hx hb hd hp rfl e1 k) (J _ _ _ _ _ _ _ e2)
  · exact h.elim
end
