/-! ===== the reference: sum, test, both, either ===== -/
section
variable {d m : Nat} {I I0 : sx_I} {rw : Nat → Nat → Option Nat} {ln : Nat → Nat} {K : sx_K} {T : Nat → Nat} {n a w br bg : Nat} {ts : List (Nat × Nat × Nat)} {o : List (Nat × Nat)} {key : Int32} {S : List Nat} {cmp : Nat → Int32}
theorem v_lp183 {N e : Nat} (he : e = d + N + 5) (hB : gy_base T n a I0) (hL : gy_Lv T n a key I0 rw m ln 5 184 e N) (hS : gy_low 4 S) (hbr : br ≤ 8) (hbg : bg ≤ 8) (hN : 6 * (8 - br) + (8 - bg) ≤ N)
    (hF : ∀ J b, gy_fr a I0 J → J 78 15 = nI b → gy_run n key ts S o w br bg true cmp = .inl b → K (some (.int (nI 0))) J (sx_run rw m ln))
    (hT : ∀ J ts2 P o1 o2 w2 cmp2, gy_post T n a key I0 4 4 S o w br bg cmp ts J ts2 P o1 o2 w2 cmp2 → K (some (.int (nI 1))) J (sx_run rw m ln)) :
    ∀ (r : Nat) (J : sx_I) (ts2 : List (Nat × Nat × Nat)) (P : List Nat) (o1 o2 : List (Nat × Nat)) (w2 : Nat) (cmp2 : Nat → Int32), ts2.length ≤ r → gy_post T n a key I0 4 5 S o w br bg cmp ts J ts2 P o1 o2 w2 cmp2 → sx_V 183 (e + 1) 0 0 K 10 [(0, .ref 78), (1, .int key)] [] J (sx_run rw m ln)
  | r, J, ts2, P, o1, o2, w2, cmp2, hr, h => by
    have hst := h.2.2.2.2.2.1
    have v28 : ∀ c p rest, ts2 = (3, c, p) :: rest → gy_tn c = 4 → J 78 19 = nI c → sx_V 183 (e + 1) 0 0 K 28 [(0, .ref 78), (1, .int key)] [] J (sx_run rw m ln) := by
      intro c p rest ets hc h19
      subst ets
      obtain ⟨r', er⟩ : ∃ r', r = r' + 1 := ⟨r - 1, by have : ((3, c, p) :: rest).length = rest.length + 1 := rfl; omega⟩
      subst er
      have hrun := h.run hS hc (by decide) (fun q => absurd q (by decide))
      have hcnt := h.2.2.2.2.2.2.1
      have hok := h.2.2.2.2.2.2.2.1
      have el : ((3, c, p) :: rest).length = rest.length + 1 := rfl
      have eS : (c :: S).length = S.length + 1 := rfl
      refine sx_go m183 100 rfl (fun VV CC hV hC => ?_)
      subst he
      refine hC _ _ _ _ _ (c_next (d := d + N + 2) hB hst (by decide) (fun J1 h1 => ?_))
      refine hC _ _ _ _ _ (hL _ J1 rest (c :: S) o2 w2 br bg cmp2 (Or.inr ⟨by omega, by omega⟩) h1 (fun q => absurd q (by decide)) hbr hbg hN (by omega) hok (fun J2 b f1 f2 f3 => ?_) (fun J2 ts3 P3 o3 o4 w4 cmp4 h2 => ?_))
      · exact ⟨fun q => absurd rfl q, fun _ => ⟨Or.inl rfl, hF J2 b f1 f2 (hrun.trans f3)⟩⟩
      · have k7 := h2.2.2.2.2.2.2.1
        refine ⟨fun _ => ?_, fun (q : nI 1 = 0) => absurd q (by decide)⟩
        refine hC _ _ _ _ _ (c_stp (d := d + N + 4) (u := 2) (v := c) hB h2.2.2.2.2.2.1 (by omega) rfl h19 (fun J4 h4 _ _ => hV _ _ _ _ _ _ _ ?_))
        have k10 := h2.2.2.2.2.2.2.2.2.2
        exact v_lp183 rfl hB hL hS hbr hbg hN hF hT r' J4 ts3 (P3 ++ [c]) o3 ((2, c) :: o4) w4 cmp4 (by omega) (h.join hS hc (by decide) (fun q => absurd q (by decide)) h2 h4)
    subst he
    refine sx_go m183 100 rfl (fun VV CC hV hC => ?_)
    refine hC _ _ _ _ _ (c_sg (d := d + N + 4) (x := 43) hst.2.1 (by decide) rfl (fun p rest q q19 => ?_) (fun q43 => ?_))
    · exact ⟨fun _ => hV _ _ _ _ _ _ _ (v28 43 p rest q (by decide) q19), fun (q : nI 1 = 0) => absurd q (by decide)⟩
    · refine ⟨fun q => absurd rfl q, fun _ => ?_⟩
      refine hC _ _ _ _ _ (c_sg (d := d + N + 4) (x := 45) hst.2.1 (by decide) rfl (fun p rest q q19 => ?_) (fun q45 => ?_))
      · exact ⟨fun (q : nI 1 = 0) => absurd q (by decide), fun _ => hV _ _ _ _ _ _ _ (v28 45 p rest q (by decide) q19)⟩
      · refine ⟨fun _ => ⟨Or.inr rfl, hT J ts2 P o1 o2 w2 cmp2 (h.fin (fun c p rest q hc => ?_))⟩, fun q => absurd rfl q⟩
        rcases gy_tn4.mp hc with z | z
        · rw [z] at q; exact absurd q (q43 p rest)
        · rw [z] at q; exact absurd q (q45 p rest)
theorem c_sum {N e : Nat} (he : e = d + N + 5) (hB : gy_base T n a I0) (hL : gy_Lv T n a key I0 rw m ln 5 184 e N) : gy_Lv T n a key I0 rw m ln 4 183 (e + 1) N := by
  intro K I ts S o w br bg cmp hS hst hc hbr hbg hN hcnt hok hF hT
  refine sx_enter (by decide +kernel) (Nat.le_of_ble_eq_true rfl) (sx_go m183 100 rfl (fun VV CC hV hC => ?_))
  refine hC _ _ _ _ _ (hL _ I ts S o w br bg cmp hS.up hst (fun q => absurd q (by decide)) hbr hbg hN hcnt hok (fun J2 b f1 f2 f3 => ?_) (fun J2 ts3 P3 o3 o4 w4 cmp4 h2 => ?_))
  · exact ⟨fun q => absurd rfl q, fun _ => ⟨Or.inl rfl, hF J2 b f1 f2 f3⟩⟩
  · exact ⟨fun _ => hV _ _ _ _ _ _ _ (v_lp183 he hB hL hS hbr hbg hN hF hT _ J2 ts3 P3 o3 o4 w4 cmp4 (Nat.le_refl _) h2.sub), fun (q : nI 1 = 0) => absurd q (by decide)⟩
theorem c_test {N e : Nat} (he : e = d + N + 6) (hB : gy_base T n a I0) (hL : gy_Lv T n a key I0 rw m ln 4 183 e N) : gy_Lv T n a key I0 rw m ln 3 182 (e + 1) N := by
  intro K I ts S o w br bg cmp hS hst0 hc0 hbr hbg hN hcnt0 hok0 hF hT
  have v62 : ∀ J, K (some (.int (nI 1))) J (sx_run rw m ln) → sx_V 182 (e + 1) 0 0 K 62 [] [] J (sx_run rw m ln) := fun J q => sx_go m182 100 rfl (fun VV CC hV hC => ⟨Or.inr rfl, q⟩)
  have v37 : ∀ J c p rest P o1 o2 w2 cmp2, gy_post T n a key I0 3 4 S o w br bg cmp ts J ((3, c, p) :: rest) P o1 o2 w2 cmp2 → gy_tn c = 3 → cmp2 br = 0 → J 78 19 = nI c → sx_V 182 (e + 1) 0 0 K 37 [(0, .ref 78), (1, .int key)] [] J (sx_run rw m ln) := by
    intro J c p rest P o1 o2 w2 cmp2 h hc h0 h19
    have hst := h.2.2.2.2.2.1
    have hrun := h.run hS hc (by decide) (fun _ => h0)
    have hcnt := h.2.2.2.2.2.2.1
    have hok := h.2.2.2.2.2.2.2.1
    have el : ((3, c, p) :: rest).length = rest.length + 1 := rfl
    have eS : (c :: S).length = S.length + 1 := rfl
    refine sx_go m182 100 rfl (fun VV CC hV hC => ?_)
    subst he
    refine hC _ _ _ _ _ (c_next (d := d + N + 3) hB hst (by decide) (fun J1 h1 => ?_))
    refine hC _ _ _ _ _ (hL _ J1 rest (c :: S) o2 w2 br bg (upd cmp2 br (nI 1)) (Or.inr ⟨by omega, by omega⟩) h1 (fun q => absurd q (by decide)) hbr hbg hN (by omega) hok (fun J2 b f1 f2 f3 => ?_) (fun J2 ts3 P3 o3 o4 w4 cmp4 h2 => ?_))
    · exact ⟨fun q => absurd rfl q, fun _ => ⟨Or.inl rfl, hF J2 b f1 f2 (hrun.trans f3)⟩⟩
    · have k7 := h2.2.2.2.2.2.2.1
      have k5 : cmp4 br = nI 1 := (h2.2.2.2.2.1 br (Or.inr ⟨rfl, by decide⟩)).trans pk_us
      refine ⟨fun _ => ?_, fun (q : nI 1 = 0) => absurd q (by decide)⟩
      refine hC _ _ _ _ _ (c_stp (d := d + N + 5) (u := 2) (v := c) hB h2.2.2.2.2.2.1 (by omega) rfl h19 (fun J4 h4 _ _ => hV _ _ _ _ _ _ _ (v62 J4 ?_)))
      refine hT J4 ts3 (P3 ++ [c]) o3 ((2, c) :: o4) w4 cmp4 ((h.join hS hc (by decide) (fun _ => h0) h2 h4).fin (fun c2 p2 rest2 q hc2 => ⟨hc2, by rw [k5]; decide⟩))
  refine sx_enter (by decide +kernel) (Nat.le_of_ble_eq_true rfl) (sx_go m182 100 rfl (fun VV CC hV hC => ?_))
  refine hC _ _ _ _ _ (hL _ I ts S o w br bg cmp hS.up hst0 (fun q => absurd q (by decide)) hbr hbg hN hcnt0 hok0 (fun J2 b f1 f2 f3 => ?_) (fun J ts2 P o1 o2 w2 cmp2 h4 => ?_))
  · exact ⟨fun q => absurd rfl q, fun _ => ⟨Or.inl rfl, hF J2 b f1 f2 f3⟩⟩
  · have h0 : cmp2 br = 0 := (h4.2.2.2.2.1 br (Or.inr ⟨rfl, by decide⟩)).trans (hc0 (by decide))
    have h := h4.sub
    have hat := h.2.2.2.2.2.1.2.1
    subst he
    refine ⟨fun _ => ?_, fun (q : nI 1 = 0) => absurd q (by decide)⟩
    refine hC _ _ _ _ _ (c_sg (d := d + N + 5) (x := 60) hat (by decide) rfl (fun p rest q q19 => ?_) (fun q60 => ?_))
    · subst q
      exact ⟨fun _ => hV _ _ _ _ _ _ _ (v37 J 60 p rest P o1 o2 w2 cmp2 h (by decide) h0 q19), fun (q : nI 1 = 0) => absurd q (by decide)⟩
    · refine ⟨fun q => absurd rfl q, fun _ => ?_⟩
      refine hC _ _ _ _ _ (c_sg (d := d + N + 5) (x := 61) hat (by decide) rfl (fun p rest q q19 => ?_) (fun q61 => ?_))
      · subst q
        exact ⟨fun _ => hV _ _ _ _ _ _ _ (v37 J 61 p rest P o1 o2 w2 cmp2 h (by decide) h0 q19), fun (q : nI 1 = 0) => absurd q (by decide)⟩
      · refine ⟨fun q => absurd rfl q, fun _ => ?_⟩
        refine hC _ _ _ _ _ (c_sg (d := d + N + 5) (x := 62) hat (by decide) rfl (fun p rest q q19 => ?_) (fun q62 => ?_))
        · subst q
          exact ⟨fun (q : nI 1 = 0) => absurd q (by decide), fun _ => hV _ _ _ _ _ _ _ (v37 J 62 p rest P o1 o2 w2 cmp2 h (by decide) h0 q19)⟩
        · refine ⟨fun _ => hV _ _ _ _ _ _ _ (v62 J (hT J ts2 P o1 o2 w2 cmp2 (h.fin (fun c p rest q hc => ?_)))), fun q => absurd rfl q⟩
          rcases gy_tn3.mp hc with z | z | z
          · rw [z] at q; exact absurd q (q60 p rest)
          · rw [z] at q; exact absurd q (q61 p rest)
          · rw [z] at q; exact absurd q (q62 p rest)
theorem v_lp181 {N e : Nat} (he : e = d + N + 7) (hB : gy_base T n a I0) (hL : gy_Lv T n a key I0 rw m ln 3 182 e N) (hS : gy_low 2 S) (hbr : br ≤ 8) (hbg : bg ≤ 8) (hN : 6 * (8 - br) + (8 - bg) ≤ N)
    (hF : ∀ J b, gy_fr a I0 J → J 78 15 = nI b → gy_run n key ts S o w br bg true cmp = .inl b → K (some (.int (nI 0))) J (sx_run rw m ln))
    (hT : ∀ J ts2 P o1 o2 w2 cmp2, gy_post T n a key I0 2 2 S o w br bg cmp ts J ts2 P o1 o2 w2 cmp2 → K (some (.int (nI 1))) J (sx_run rw m ln)) :
    ∀ (r : Nat) (J : sx_I) (ts2 : List (Nat × Nat × Nat)) (P : List Nat) (o1 o2 : List (Nat × Nat)) (w2 : Nat) (cmp2 : Nat → Int32), ts2.length ≤ r → gy_post T n a key I0 2 3 S o w br bg cmp ts J ts2 P o1 o2 w2 cmp2 → sx_V 181 (e + 1) 0 0 K 10 [(0, .ref 78), (1, .int key)] [] J (sx_run rw m ln)
  | r, J, ts2, P, o1, o2, w2, cmp2, hr, h => by
    have hst := h.2.2.2.2.2.1
    subst he
    refine sx_go m181 100 rfl (fun VV CC hV hC => ?_)
    refine hC _ _ _ _ _ (c_sg (d := d + N + 6) (x := 38) hst.2.1 (by decide) rfl (fun p rest ets h19 => ?_) (fun q42 => ?_))
    · refine ⟨fun (q : nI 1 = 0) => absurd q (by decide), fun _ => ?_⟩
      subst ets
      obtain ⟨r', er⟩ : ∃ r', r = r' + 1 := ⟨r - 1, by have : ((3, 38, p) :: rest).length = rest.length + 1 := rfl; omega⟩
      subst er
      have hc : gy_tn 38 = 2 := by decide
      have hrun := h.run hS hc (by decide) (fun q => absurd q (by decide))
      have hcnt := h.2.2.2.2.2.2.1
      have hok := h.2.2.2.2.2.2.2.1
      have el : ((3, 38, p) :: rest).length = rest.length + 1 := rfl
      have eS : (38 :: S).length = S.length + 1 := rfl
      refine hC _ _ _ _ _ (c_next (d := d + N + 4) hB hst (by decide) (fun J1 h1 => ?_))
      refine hC _ _ _ _ _ (hL _ J1 rest (38 :: S) o2 w2 br bg (upd cmp2 br 0) (Or.inr ⟨by omega, by omega⟩) h1 (fun _ => pk_us) hbr hbg hN (by omega) hok (fun J2 b f1 f2 f3 => ?_) (fun J2 ts3 P3 o3 o4 w4 cmp4 h2 => ?_))
      · exact ⟨fun q => absurd rfl q, fun _ => ⟨Or.inl rfl, hF J2 b f1 f2 (hrun.trans f3)⟩⟩
      · have k7 := h2.2.2.2.2.2.2.1
        refine ⟨fun _ => ?_, fun (q : nI 1 = 0) => absurd q (by decide)⟩
        refine hC _ _ _ _ _ (c_stp (d := d + N + 6) (u := 2) (v := 38) hB h2.2.2.2.2.2.1 (by omega) rfl rfl (fun J4 h4 _ _ => hV _ _ _ _ _ _ _ ?_))
        have k10 := h2.2.2.2.2.2.2.2.2.2
        exact v_lp181 rfl hB hL hS hbr hbg hN hF hT r' J4 ts3 (P3 ++ [38]) o3 ((2, 38) :: o4) w4 cmp4 (by omega) (h.join hS hc (by decide) (fun q => absurd q (by decide)) h2 h4)
    · refine ⟨fun _ => ⟨Or.inr rfl, hT J ts2 P o1 o2 w2 cmp2 (h.fin (fun c p rest q hc => ?_))⟩, fun q => absurd rfl q⟩
      rw [gy_tn2.mp hc] at q; exact absurd q (q42 p rest)
theorem c_both {N e : Nat} (he : e = d + N + 7) (hB : gy_base T n a I0) (hL : gy_Lv T n a key I0 rw m ln 3 182 e N) : gy_Lv T n a key I0 rw m ln 2 181 (e + 1) N := by
  intro K I ts S o w br bg cmp hS hst hc hbr hbg hN hcnt hok hF hT
  refine sx_enter (by decide +kernel) (Nat.le_of_ble_eq_true rfl) (sx_go m181 100 rfl (fun VV CC hV hC => ?_))
  refine hC _ _ _ _ _ (hL _ I ts S o w br bg cmp hS.up hst (fun _ => hc (by decide)) hbr hbg hN hcnt hok (fun J2 b f1 f2 f3 => ?_) (fun J2 ts3 P3 o3 o4 w4 cmp4 h2 => ?_))
  · exact ⟨fun q => absurd rfl q, fun _ => ⟨Or.inl rfl, hF J2 b f1 f2 f3⟩⟩
  · exact ⟨fun _ => hV _ _ _ _ _ _ _ (v_lp181 he hB hL hS hbr hbg hN hF hT _ J2 ts3 P3 o3 o4 w4 cmp4 (Nat.le_refl _) h2.sub), fun (q : nI 1 = 0) => absurd q (by decide)⟩
theorem v_lp180 {N e : Nat} (he : e = d + N + 8) (hB : gy_base T n a I0) (hL : gy_Lv T n a key I0 rw m ln 2 181 e N) (hS : gy_low 1 S) (hbr : br ≤ 8) (hbg : bg ≤ 8) (hN : 6 * (8 - br) + (8 - bg) ≤ N)
    (hF : ∀ J b, gy_fr a I0 J → J 78 15 = nI b → gy_run n key ts S o w br bg true cmp = .inl b → K (some (.int (nI 0))) J (sx_run rw m ln))
    (hT : ∀ J ts2 P o1 o2 w2 cmp2, gy_post T n a key I0 1 1 S o w br bg cmp ts J ts2 P o1 o2 w2 cmp2 → K (some (.int (nI 1))) J (sx_run rw m ln)) :
    ∀ (r : Nat) (J : sx_I) (ts2 : List (Nat × Nat × Nat)) (P : List Nat) (o1 o2 : List (Nat × Nat)) (w2 : Nat) (cmp2 : Nat → Int32), ts2.length ≤ r → gy_post T n a key I0 1 2 S o w br bg cmp ts J ts2 P o1 o2 w2 cmp2 → sx_V 180 (e + 1) 0 0 K 10 [(0, .ref 78), (1, .int key)] [] J (sx_run rw m ln)
  | r, J, ts2, P, o1, o2, w2, cmp2, hr, h => by
    have hst := h.2.2.2.2.2.1
    subst he
    refine sx_go m180 100 rfl (fun VV CC hV hC => ?_)
    refine hC _ _ _ _ _ (c_sg (d := d + N + 7) (x := 124) hst.2.1 (by decide) rfl (fun p rest ets h19 => ?_) (fun q42 => ?_))
    · refine ⟨fun (q : nI 1 = 0) => absurd q (by decide), fun _ => ?_⟩
      subst ets
      obtain ⟨r', er⟩ : ∃ r', r = r' + 1 := ⟨r - 1, by have : ((3, 124, p) :: rest).length = rest.length + 1 := rfl; omega⟩
      subst er
      have hc : gy_tn 124 = 1 := by decide
      have hrun := h.run hS hc (by decide) (fun q => absurd q (by decide))
      have hcnt := h.2.2.2.2.2.2.1
      have hok := h.2.2.2.2.2.2.2.1
      have el : ((3, 124, p) :: rest).length = rest.length + 1 := rfl
      have eS : (124 :: S).length = S.length + 1 := rfl
      refine hC _ _ _ _ _ (c_next (d := d + N + 5) hB hst (by decide) (fun J1 h1 => ?_))
      refine hC _ _ _ _ _ (hL _ J1 rest (124 :: S) o2 w2 br bg (upd cmp2 br 0) (Or.inr ⟨by omega, by omega⟩) h1 (fun _ => pk_us) hbr hbg hN (by omega) hok (fun J2 b f1 f2 f3 => ?_) (fun J2 ts3 P3 o3 o4 w4 cmp4 h2 => ?_))
      · exact ⟨fun q => absurd rfl q, fun _ => ⟨Or.inl rfl, hF J2 b f1 f2 (hrun.trans f3)⟩⟩
      · have k7 := h2.2.2.2.2.2.2.1
        refine ⟨fun _ => ?_, fun (q : nI 1 = 0) => absurd q (by decide)⟩
        refine hC _ _ _ _ _ (c_stp (d := d + N + 7) (u := 2) (v := 124) hB h2.2.2.2.2.2.1 (by omega) rfl rfl (fun J4 h4 _ _ => hV _ _ _ _ _ _ _ ?_))
        have k10 := h2.2.2.2.2.2.2.2.2.2
        exact v_lp180 rfl hB hL hS hbr hbg hN hF hT r' J4 ts3 (P3 ++ [124]) o3 ((2, 124) :: o4) w4 cmp4 (by omega) (h.join hS hc (by decide) (fun q => absurd q (by decide)) h2 h4)
    · refine ⟨fun _ => ⟨Or.inr rfl, hT J ts2 P o1 o2 w2 cmp2 (h.fin (fun c p rest q hc => ?_))⟩, fun q => absurd rfl q⟩
      rw [gy_tn1.mp hc] at q; exact absurd q (q42 p rest)
theorem c_either {N e : Nat} (he : e = d + N + 8) (hB : gy_base T n a I0) (hL : gy_Lv T n a key I0 rw m ln 2 181 e N) : gy_Lv T n a key I0 rw m ln 1 180 (e + 1) N := by
  intro K I ts S o w br bg cmp hS hst hc hbr hbg hN hcnt hok hF hT
  refine sx_enter (by decide +kernel) (Nat.le_of_ble_eq_true rfl) (sx_go m180 100 rfl (fun VV CC hV hC => ?_))
  refine hC _ _ _ _ _ (hL _ I ts S o w br bg cmp hS.up hst (fun _ => hc (by decide)) hbr hbg hN hcnt hok (fun J2 b f1 f2 f3 => ?_) (fun J2 ts3 P3 o3 o4 w4 cmp4 h2 => ?_))
  · exact ⟨fun q => absurd rfl q, fun _ => ⟨Or.inl rfl, hF J2 b f1 f2 f3⟩⟩
  · exact ⟨fun _ => hV _ _ _ _ _ _ _ (v_lp180 he hB hL hS hbr hbg hN hF hT _ J2 ts3 P3 o3 o4 w4 cmp4 (Nat.le_refl _) h2.sub), fun (q : nI 1 = 0) => absurd q (by decide)⟩
end
