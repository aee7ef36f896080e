/-! ===== steps that read and write the memory ===== -/
def sx_ety : Nat → FieldType
  | 0 => .int
  | 1 => .byte
  | 2 => .boolean
  | 3 => .object "StrawGarrison$Text"
  | 4 => .object "StrawGarrison$Sheet"
  | _ => .object "StrawGarrison$Slot"
theorem sx_tys_at {P : sx_P} {t : Nat} (h : t < 6) : (sx_tys P)[t]? = some (P.2.2.2.1 t, sx_ety t) := by
  rcases (show t = 0 ∨ t = 1 ∨ t = 2 ∨ t = 3 ∨ t = 4 ∨ t = 5 by omega) with h | h | h | h | h | h <;> subst h <;> rfl
def sx_shok (q : Nat × Nat × Nat) : Bool := match q with
  | (0, ci, n) => (match vwCl[ci]? with | some w => Nat.beq w.2.2 n | none => false)
  | (1, t, n) => Nat.blt t 6 && Nat.blt n 65536
  | _ => false
theorem sx_shS_ok : (List.range 200).all (fun a => Nat.blt a 15 || sx_shok (sx_shS a)) = true := by decide +kernel
theorem sx_sh_cases {G : sx_G} (hG : ∀ a, G.2.2 a < 2 ^ 31) (a : Nat) : (∃ (ci n : Nat) (w : vw_C), sx_sh G a = (0, ci, n) ∧ 15 ≤ a ∧ vwCl[ci]? = some w ∧ w.2.2 = n) ∨ (∃ t n : Nat, sx_sh G a = (1, t, n) ∧ t < 6 ∧ n < 2 ^ 31) ∨ (∃ i : Nat, sx_sh G a = (2, i, 0) ∧ i < 6 ∧ a = 2 + i) := by
  rcases Nat.lt_or_ge a 15 with q | q
  · rw [sx_sh_ro q]
    unfold sx_shR
    cases hb : Nat.beq a 14 with
    | true => exact Or.inr (Or.inl ⟨0, _, rfl, by omega, hG 14⟩)
    | false =>
      rw [sx_bf] at hb
      simp only [cond_false]
      rcases sx_ro_cases (a := a) (by omega) with z | z | ⟨i, z⟩ | ⟨i, z⟩
      · exact Or.inr (Or.inl ⟨0, 4, z.1, by omega, Nat.le_of_ble_eq_true rfl⟩)
      · exact Or.inr (Or.inl ⟨0, 6, z.1, by omega, Nat.le_of_ble_eq_true rfl⟩)
      · exact Or.inr (Or.inr ⟨i, z.2.2, z.1, z.2.1⟩)
      · refine Or.inr (Or.inl ⟨1, _, z.2.2, by omega, ?_⟩)
        have hi := z.1
        have h4 : sx_sl.getD i 0 ≤ 4 := by
          rcases (show i = 0 ∨ i = 1 ∨ i = 2 ∨ i = 3 ∨ i = 4 ∨ i = 5 by omega) with h | h | h | h | h | h <;> subst h <;> exact Nat.le_of_ble_eq_true rfl
        exact Nat.lt_of_le_of_lt h4 (Nat.le_of_ble_eq_true rfl)
  · unfold sx_sh
    have h14 : Nat.ble a 14 = false := by
      cases hb : Nat.ble a 14 with
      | false => rfl
      | true => have := Nat.le_of_ble_eq_true hb; omega
    rw [h14]
    simp only [cond_false]
    cases hb : Nat.ble a 199 with
    | true =>
      simp only [cond_true]
      have ha := Nat.le_of_ble_eq_true hb
      have hs := List.all_eq_true.mp sx_shS_ok a (List.mem_range.mpr (by omega))
      have h15 : Nat.blt a 15 = false := by
        cases hc : Nat.blt a 15 with
        | false => rfl
        | true => have := Nat.le_of_ble_eq_true hc; omega
      rw [h15, Bool.false_or] at hs
      revert hs
      generalize sx_shS a = q3
      obtain ⟨x, y, z⟩ := q3
      intro hs
      match x, hs with
      | 0, hs =>
        simp only [sx_shok] at hs
        cases hw : vwCl[y]? with
        | none => rw [hw] at hs; simp at hs
        | some w => rw [hw] at hs; exact Or.inl ⟨y, z, w, rfl, q, hw, Nat.eq_of_beq_eq_true hs⟩
      | 1, hs =>
        simp only [sx_shok, Bool.and_eq_true] at hs
        have h1 := Nat.le_of_ble_eq_true hs.1
        have h2 : z < 65536 := Nat.le_of_ble_eq_true hs.2
        exact Or.inr (Or.inl ⟨y, z, rfl, h1, Nat.lt_trans h2 (Nat.le_of_ble_eq_true rfl)⟩)
      | x + 2, hs => simp [sx_shok] at hs
    | false =>
      simp only [cond_false]
      cases hc : Nat.beq ((a - 200) % 3) 0 with
      | true => exact Or.inl ⟨5, 4, _, rfl, q, rfl, rfl⟩
      | false => exact Or.inr (Or.inl ⟨0, _, rfl, by omega, hG a⟩)
theorem sx_sh_arr {G : sx_G} {a t n : Nat} (hG : ∀ a, G.2.2 a < 2 ^ 31) (h : sx_sh G a = (1, t, n)) : t < 6 ∧ n < 2 ^ 31 := by
  rcases sx_sh_cases hG a with ⟨ci, m, w, q, -⟩ | ⟨t', n', q, q1, q2⟩ | ⟨i, q, -⟩
  · rw [h] at q; cases q
  · rw [h] at q; cases q; exact ⟨q1, q2⟩
  · rw [h] at q; cases q
theorem sx_sh_cls {G : sx_G} {a ci n : Nat} (hG : ∀ a, G.2.2 a < 2 ^ 31) (h : sx_sh G a = (0, ci, n)) : 15 ≤ a ∧ ∃ w : vw_C, vwCl[ci]? = some w ∧ w.2.2 = n := by
  rcases sx_sh_cases hG a with ⟨ci', m, w, q, q1, q2, q3⟩ | ⟨t', n', q, q1, q2⟩ | ⟨i, q, -⟩
  · rw [h] at q; cases q; exact ⟨q1, w, q2, q3⟩
  · rw [h] at q; cases q
  · rw [h] at q; cases q
theorem sx_sh_str {G : sx_G} {a i n : Nat} (hG : ∀ a, G.2.2 a < 2 ^ 31) (h : sx_sh G a = (2, i, n)) : i < 6 ∧ a = 2 + i := by
  rcases sx_sh_cases hG a with ⟨ci', m, w, q, q1, q2, q3⟩ | ⟨t', n', q, q1, q2⟩ | ⟨i', q, q1, q2⟩
  · rw [h] at q; cases q
  · rw [h] at q; cases q
  · rw [h] at q; cases q; exact ⟨q1, q2⟩
theorem sx_ble_t {a b : Nat} (h : Nat.ble a b = true) : a ≤ b := Nat.le_of_ble_eq_true h
theorem sx_ble_f {a b : Nat} (h : Nat.ble a b = false) : b < a := by
  rcases Nat.lt_or_ge b a with q | q
  · exact q
  · rw [Nat.ble_eq_true_of_le q] at h; cases h
/-- the read-only arrays -/
theorem sx_ro_int {P : sx_P} {G : sx_G} {U : State} {H : Heap} {a n : Nat} (hRO : sx_RO P U H) (ha : a ≤ 13) (hs : sx_sh G a = (1, 0, n)) : va_T .int (P.1 a) n (fun j => .int (sx_rom a j)) (sx_A P) U H := by
  rw [sx_sh_ro (by omega)] at hs
  unfold sx_shR at hs
  rw [show Nat.beq a 14 = false from sx_bf.mpr (by omega)] at hs
  simp only [cond_false] at hs
  rcases sx_ro_cases (a := a) (by omega) with z | z | ⟨i, z⟩ | ⟨i, z⟩
  · rw [z.1] at hs; cases hs
    obtain ⟨-, rfl⟩ := z
    exact hRO.1.2
  · rw [z.1] at hs; cases hs
    obtain ⟨-, rfl⟩ := z
    exact hRO.2.1.2
  · rw [z.2.2] at hs; cases hs
  · rw [z.2.2] at hs; cases hs
theorem sx_rom_str {i j : Nat} (hi : i < 6) : sx_rom (8 + i) j = (sx_sb.getD i []).getD j 0 := by
  rcases (show i = 0 ∨ i = 1 ∨ i = 2 ∨ i = 3 ∨ i = 4 ∨ i = 5 by omega) with h | h | h | h | h | h <;> subst h <;> rfl
theorem sx_ro_byte {P : sx_P} {G : sx_G} {U : State} {H : Heap} {a n : Nat} (hRO : sx_RO P U H) (ha : a ≤ 13) (hs : sx_sh G a = (1, 1, n)) : va_T .byte (P.1 a) n (fun j => .int (sx_rom a j)) (sx_A P) U H := by
  rw [sx_sh_ro (by omega)] at hs
  unfold sx_shR at hs
  rw [show Nat.beq a 14 = false from sx_bf.mpr (by omega)] at hs
  simp only [cond_false] at hs
  rcases sx_ro_cases (a := a) (by omega) with z | z | ⟨i, z⟩ | ⟨i, z⟩
  · rw [z.1] at hs; cases hs
  · rw [z.1] at hs; cases hs
  · rw [z.2.2] at hs; cases hs
  · rw [z.2.2] at hs; cases hs
    obtain ⟨hi, rfl, -⟩ := z
    have := (hRO.2.2.2.2.2.1.1 i hi).2.2.2
    simp only [sx_rom_str hi]
    exact this
theorem sx_vin {k n : Nat} (h : k < n) (hn : n < 2 ^ 31) : vp_in (nI k) n := vp_in_nI h hn
/-- a read of an array cell of ours -/
theorem sx_ce_arr {P : sx_P} {t n : Nat} {Ia : Nat → Int32} {Ra : Nat → Option Nat} (ht : t < 3) : sx_ce P (1, t, n) Ia Ra = .inl (P.2.2.2.1 t, n, .inl Ia) := by
  simp [sx_ce, ht]
theorem sx_ce_arrR {P : sx_P} {t n : Nat} {Ia : Nat → Int32} {Ra : Nat → Option Nat} (ht : 3 ≤ t) : sx_ce P (1, t, n) Ia Ra = .inl (P.2.2.2.1 t, n, .inr (.inr (.inr (.inr (fun j => (Ra j).map (sx_tr P)))))) := by
  simp [sx_ce, Nat.not_lt.mpr ht]
section
variable {j d mc ms : Nat} {K : sx_K} {pc npc : Nat} {L : sx_L} {I : sx_I} {G : sx_G} {cs cd : List sx_E} {f : sx_T} {ax : List Nat} {cv : Value} {st : List Value}
theorem sx_s_iaload (N : ∀ mc ms L st I G, f mc ms cs L st I G → sx_V j (d + 1) mc ms K npc L st I G) (ok : sx_ok j .iaload pc npc ax cv) (h : sx_step j d K cd f .iaload pc ax cv cs mc ms L st I G) : sx_V j (d + 1) mc ms K pc L st I G := by
  obtain ⟨hd, rfl⟩ := ok
  simp only [sx_step, sx_stepG] at h
  split at h
  · rename_i i a r
    split at h
    · rename_i n hal hsh
      obtain ⟨k, ⟨rfl, hk⟩, h⟩ := h
      split at h
      · rename_i hb13
        refine sx_v_go (fun P p l e R s m args below meth c H locs cells slots Q ls mcT msT C hx hb hl hS hR k2 => ?_) (N _ _ _ _ _ _ h)
        obtain ⟨hx, hb, hml, hown, hts, -, -, -, -, -, -, -, hRO, -⟩ := C
        have hn := (sx_sh_arr hR.2.2.2.2.1 hsh).2
        show W _ _ _ _ _ _ _ _ _ _ _ _ _ _ _ (F0 m pc ls (.int (nI k) :: .ref (sx_tr P _) :: _))
        rw [show sx_tr P _ = P.1 _ from if_pos (by have := sx_ble_t hb13; omega)]
        exact va_ti hx hb (sx_ro_int hRO (sx_ble_t hb13) hsh) hS (sx_vin hk hn) (by rw [nI_clamp (by omega)]; rfl) hd k2
      · rename_i hb13
        refine sx_v_go (fun P p l e R s m args below meth c H locs cells slots Q ls mcT msT C hx hb hl hS hR k2 => ?_) (N _ _ _ _ _ _ h)
        have hn := (sx_sh_arr hR.2.2.2.2.1 hsh).2
        have ha14 := sx_ble_f hb13
        rcases Nat.lt_or_ge a 15 with q | q
        · have ha : @Eq Nat a 14 := by omega
          subst ha
          have hn2 : n = G.2.2 14 := by
            rw [sx_sh_ro (by omega)] at hsh
            unfold sx_shR at hsh
            simp at hsh
            exact hsh.symm
          subst hn2
          obtain ⟨cell, g1, g2, g3, g4, g5, g6, g7⟩ := hR.2.2.2.2.2
          show W _ _ _ _ _ _ _ _ _ _ _ _ _ _ _ (F0 m pc ls (.int (nI k) :: .ref (sx_tr P 14) :: _))
          rw [show sx_tr P 14 = P.1 14 from if_pos (by omega)]
          refine W.iald (v := .int (I 14 k)) hx hb g1 g2 g3 ?_ ?_ rfl rfl hd k2
          · rw [nI_clamp (by omega)]
            rintro (z | z)
            · exact nI_pos (by omega) z
            · omega
          · rw [nI_clamp (by omega)]; exact g6 k hk
        · have hws := sx_ws_at (P := P) (I := I) (G := G) q (sx_al_lt hR.2.2.2.1 hal)
          rw [hsh, sx_ce_arr (by omega)] at hws
          exact va_iald hx hb hR.1 hR.2.1 _ 0 hws (sx_tys_at (by omega)) (sx_vin hk hn) hd (by rw [nI_clamp (by omega)]; exact k2)
    · exact h.elim
  · exact h.elim
theorem sx_s_baload (N : ∀ mc ms L st I G, f mc ms cs L st I G → sx_V j (d + 1) mc ms K npc L st I G) (ok : sx_ok j .baload pc npc ax cv) (h : sx_step j d K cd f .baload pc ax cv cs mc ms L st I G) : sx_V j (d + 1) mc ms K pc L st I G := by
  obtain ⟨hd, rfl⟩ := ok
  simp only [sx_step, sx_stepG] at h
  split at h
  · rename_i i a r
    split at h
    · rename_i n hal hsh
      obtain ⟨k, ⟨rfl, hk⟩, h⟩ := h
      split at h
      · rename_i hb13
        refine sx_v_go (fun P p l e R s m args below meth c H locs cells slots Q ls mcT msT C hx hb hl hS hR k2 => ?_) (N _ _ _ _ _ _ h)
        obtain ⟨hx, hb, hml, hown, hts, -, -, -, -, -, -, -, hRO, -⟩ := C
        have hn := (sx_sh_arr hR.2.2.2.2.1 hsh).2
        show W _ _ _ _ _ _ _ _ _ _ _ _ _ _ _ (F0 m pc ls (.int (nI k) :: .ref (sx_tr P _) :: _))
        rw [show sx_tr P _ = P.1 _ from if_pos (by have := sx_ble_t hb13; omega)]
        exact va_tb hx hb (sx_ro_byte hRO (sx_ble_t hb13) hsh) hS (sx_vin hk hn) (by rw [nI_clamp (by omega)]; rfl) hd k2
      · rename_i hb13
        refine sx_v_go (fun P p l e R s m args below meth c H locs cells slots Q ls mcT msT C hx hb hl hS hR k2 => ?_) (N _ _ _ _ _ _ h)
        have hn := (sx_sh_arr hR.2.2.2.2.1 hsh).2
        have ha14 := sx_ble_f hb13
        have q : 15 ≤ a := by
          rcases Nat.lt_or_ge a 15 with q | q
          · have ha : @Eq Nat a 14 := by omega
            subst ha
            rw [sx_sh_ro (by omega)] at hsh
            unfold sx_shR at hsh
            simp at hsh
          · exact q
        have hws := sx_ws_at (P := P) (I := I) (G := G) q (sx_al_lt hR.2.2.2.1 hal)
        rw [hsh, sx_ce_arr (by omega)] at hws
        exact va_bald hx hb hR.1 hR.2.1 _ 1 hws (sx_tys_at (by omega)) (sx_vin hk hn) hd (by rw [nI_clamp (by omega)]; exact k2)
    · rename_i n hal hsh
      obtain ⟨k, ⟨rfl, hk⟩, h⟩ := h
      refine sx_v_go (fun P p l e R s m args below meth c H locs cells slots Q ls mcT msT C hx hb hl hS hR k2 => ?_) (N _ _ _ _ _ _ h)
      have hn := (sx_sh_arr hR.2.2.2.2.1 hsh).2
      have q : 15 ≤ a := by
        rcases Nat.lt_or_ge a 15 with q | q
        · rw [sx_sh_ro q] at hsh
          unfold sx_shR at hsh
          cases hb9 : Nat.beq a 14 with
          | true => rw [hb9] at hsh; simp at hsh
          | false =>
            rw [hb9] at hsh
            rw [sx_bf] at hb9
            simp only [cond_false] at hsh
            rcases sx_ro_cases (a := a) (by omega) with z | z | ⟨i, z⟩ | ⟨i, z⟩
            · rw [z.1] at hsh; cases hsh
            · rw [z.1] at hsh; cases hsh
            · rw [z.2.2] at hsh; cases hsh
            · rw [z.2.2] at hsh; cases hsh
        · exact q
      have hws := sx_ws_at (P := P) (I := I) (G := G) q (sx_al_lt hR.2.2.2.1 hal)
      rw [hsh, sx_ce_arr (by omega)] at hws
      exact va_zald hx hb hR.1 hR.2.1 _ 2 hws (sx_tys_at (by omega)) (sx_vin hk hn) hd (by rw [nI_clamp (by omega)]; exact k2)
    · exact h.elim
  · exact h.elim
theorem sx_s_arraylength (N : ∀ mc ms L st I G, f mc ms cs L st I G → sx_V j (d + 1) mc ms K npc L st I G) (ok : sx_ok j .arraylength pc npc ax cv) (h : sx_step j d K cd f .arraylength pc ax cv cs mc ms L st I G) : sx_V j (d + 1) mc ms K pc L st I G := by
  obtain ⟨hd, rfl⟩ := ok
  simp only [sx_step, sx_stepG] at h
  split at h
  · rename_i a r
    split at h
    · rename_i t n hal hsh
      refine sx_v_go (fun P p l e R s m args below meth c H locs cells slots Q ls mcT msT C hx hb hl hS hR k2 => ?_) (N _ _ _ _ _ _ h)
      obtain ⟨ht, hn⟩ := sx_sh_arr hR.2.2.2.2.1 hsh
      have hro : ∀ (ty : FieldType) (fv : Nat → Value), va_T ty (P.1 a) n fv (sx_A P) s H → a < 15 → W p l e R s m args below meth c H locs cells slots Q (F0 m pc ls (List.map (sx_tv P) (.ref a :: r))) := by
        intro ty fv hT ha
        obtain ⟨cell, g1, g2, g3, g4, g5, g6, g7⟩ := hT
        show W _ _ _ _ _ _ _ _ _ _ _ _ _ _ _ (F0 m pc ls (.ref (sx_tr P _) :: _))
        rw [show sx_tr P a = P.1 a from if_pos ha]
        exact W.alen (n := nI n) hx hb g1 g2 g5 rfl rfl hd k2
      rcases Nat.lt_or_ge a 15 with q | q
      · have hsh0 := hsh
        rw [sx_sh_ro q] at hsh
        unfold sx_shR at hsh
        cases hb9 : Nat.beq a 14 with
        | true =>
          rw [hb9] at hsh
          have ha := Nat.eq_of_beq_eq_true hb9
          subst ha
          simp at hsh
          obtain ⟨-, rfl⟩ := hsh
          exact hro _ _ hR.2.2.2.2.2 q
        | false =>
          rw [hb9] at hsh
          rw [sx_bf] at hb9
          simp only [cond_false] at hsh
          obtain ⟨hx, hb, hml, hown, hts, -, -, -, -, -, -, -, hRO, -⟩ := C
          rcases sx_ro_cases (a := a) (by omega) with z | z | ⟨i, z⟩ | ⟨i, z⟩
          · rw [z.1] at hsh; cases hsh; exact hro _ _ ((sx_ro_int hRO (by omega) hsh0).kept hS.2.1) q
          · rw [z.1] at hsh; cases hsh; exact hro _ _ ((sx_ro_int hRO (by omega) hsh0).kept hS.2.1) q
          · rw [z.2.2] at hsh; cases hsh
          · rw [z.2.2] at hsh; cases hsh; exact hro _ _ ((sx_ro_byte hRO (by omega) hsh0).kept hS.2.1) q
      · have hws := sx_ws_at (P := P) (I := I) (G := G) q (sx_al_lt hR.2.2.2.1 hal)
        rw [hsh] at hws
        rcases Nat.lt_or_ge t 3 with q3 | q3
        · rw [sx_ce_arr q3] at hws
          exact va_alen hx hb hR.1 hR.2.1 _ t hws (sx_tys_at ht) rfl hd k2
        · rw [sx_ce_arrR q3] at hws
          exact va_alen hx hb hR.1 hR.2.1 _ t hws (sx_tys_at ht) rfl hd k2
    · exact h.elim
  · exact h.elim
theorem sx_s_aaload (N : ∀ mc ms L st I G, f mc ms cs L st I G → sx_V j (d + 1) mc ms K npc L st I G) (ok : sx_ok j .aaload pc npc ax cv) (h : sx_step j d K cd f .aaload pc ax cv cs mc ms L st I G) : sx_V j (d + 1) mc ms K pc L st I G := by
  obtain ⟨hd, rfl⟩ := ok
  simp only [sx_step, sx_stepG] at h
  split at h
  · rename_i i a r
    split at h
    · rename_i t n hal hsh
      split at h
      · rename_i h3
        obtain ⟨k, ⟨rfl, hk⟩, h1, h2⟩ := h
        have k1 := fun b hb => N _ _ _ _ _ _ (h1 b hb)
        have k2 := fun hb => N _ _ _ _ _ _ (h2 hb)
        intro P p l e R s m args below meth c mcT msT H locs cells slots ls C g1 g2 hS hR hl
        have q1 := fun b hb => k1 b hb P p l e R s m args below meth c mcT msT H locs cells slots ls C g1 g2 hS hR hl
        have q2 := fun hb => k2 hb P p l e R s m args below meth c mcT msT H locs cells slots ls C g1 g2 hS hR hl
        have h3 := sx_ble_t h3
        obtain ⟨ht, hn⟩ := sx_sh_arr hR.2.2.2.2.1 hsh
        have q : 15 ≤ a := by
          rcases Nat.lt_or_ge a 15 with q | q
          · exfalso
            rw [sx_sh_ro q] at hsh
            unfold sx_shR at hsh
            cases hb9 : Nat.beq a 14 with
            | true => rw [hb9] at hsh; simp at hsh; omega
            | false =>
              rw [hb9] at hsh
              rw [sx_bf] at hb9
              simp only [cond_false] at hsh
              rcases sx_ro_cases (a := a) (by omega) with z | z | ⟨i, z⟩ | ⟨i, z⟩
              · rw [z.1] at hsh; cases hsh; omega
              · rw [z.1] at hsh; cases hsh; omega
              · rw [z.2.2] at hsh; cases hsh
              · rw [z.2.2] at hsh; cases hsh; omega
          · exact q
        have hws := sx_ws_at (P := P) (I := I) (G := G) q (sx_al_lt hR.2.2.2.1 hal)
        rw [hsh, sx_ce_arrR h3] at hws
        have hety : ∃ C0, sx_ety t = .object C0 := by
          rcases (show t = 3 ∨ t = 4 ∨ t = 5 by omega) with h | h | h <;> subst h <;> exact ⟨_, rfl⟩
        obtain ⟨C0, hC0⟩ := hety
        have htys := sx_tys_at (P := P) ht
        rw [hC0] at htys
        refine va_aldq C.1 C.2.1 hR.1 hR.2.1 _ t hws htys (sx_vin hk hn) hd ?_
        rw [nI_clamp (by omega)]
        cases hg : G.1 a k with
        | none => exact q2 hg
        | some b => exact q1 b hg
      · exact h.elim
    · exact h.elim
  · exact h.elim
theorem sx_fs_at {P : sx_P} {ci N k : Nat} {Ia : Nat → Int32} {Ra : Nat → Option Nat} (hk : k < N) : ((List.range N).map (fun k => if sx_isr ci k = true then va_rf ((Ra k).map (sx_tr P)) else Value.int (Ia k)))[k]? = some (if sx_isr ci k = true then va_rf ((Ra k).map (sx_tr P)) else .int (Ia k)) := by
  rw [List.getElem?_map, List.getElem?_range hk]
  rfl
theorem sx_s_getfield {i : Nat} (N : ∀ mc ms L st I G, f mc ms cs L st I G → sx_V j (d + 1) mc ms K npc L st I G) (ok : sx_ok j (.getfield i) pc npc ax cv) (h : sx_step j d K cd f (.getfield i) pc ax cv cs mc ms L st I G) : sx_V j (d + 1) mc ms K pc L st I G := by
  obtain ⟨hd, rfl, ok⟩ := ok
  simp only [sx_step, sx_stepG] at h
  split at h
  · rename_i a r ci k q ax'
    obtain ⟨okA, okB⟩ := ok _ _ _ _ rfl
    split at h
    · rename_i ci2 n2 hal hsh
      have key : ∀ (v : Value), Nat.beq ci ci2 = true → f mc ms cs L (v :: r) I G → (∀ P : sx_P, sx_tv P v = (if sx_isr ci k = true then va_rf ((G.1 a k).map (sx_tr P)) else .int (I a k))) → sx_V j (d + 1) mc ms K pc L (.ref a :: r) I G := by
        intro v hci hf hv
        have hci := Nat.eq_of_beq_eq_true hci
        subst hci
        refine sx_v_go (fun P p l e R s m args below meth c H locs cells slots Q ls mcT msT C hx hb hl hS hR k2 => ?_) (N _ _ _ _ _ _ hf)
        obtain ⟨h15, w, hw, hwn⟩ := sx_sh_cls hR.2.2.2.2.1 hsh
        have hlt : ci < 8 := (List.getElem?_eq_some_iff.mp hw).1
        obtain ⟨w', hw', hkN, hin, hlink, -⟩ := okA hlt
        cases hw.symm.trans hw'
        obtain ⟨hx, hb, hml, hown, hts, -, -, -, -, -, -, -, hRO, -⟩ := C
        have hws := sx_ws_at (P := P) (I := I) (G := G) h15 (sx_al_lt hR.2.2.2.1 hal)
        rw [hsh] at hws
        obtain ⟨wC, wT, wN⟩ := w
        simp only at hwn hkN hin hlink
        subst hwn
        exact va_get (T := wT) (N := wN) (C := wC) hx hb hts hin hown hR.1 hR.2.1 _ hws hw k hkN (hts _ hlink) (fun _ h9 => h9) (sx_fs_at hkN) hd (by rw [← hv P]; exact k2)
      split at h
      · rename_i hci
        have hr : sx_isr ci k = true := by
          by_cases hlt : ci < 8
          · obtain ⟨w', -, -, -, -, hq⟩ := okA hlt
            exact hq.mp rfl
          · exfalso
            have hci := Nat.eq_of_beq_eq_true hci
            subst hci
            have : ∃ w : vw_C, vwCl[ci]? = some w := by
              unfold sx_sh at hsh
              cases h1 : Nat.ble a 14 with
              | true => have := sx_sh_obj (G := G) (a := a) (ci := ci) (n := n2) (by unfold sx_sh; rw [h1]; rw [h1] at hsh; exact hsh); have := sx_ble_t h1; omega
              | false =>
                rw [h1] at hsh
                simp only [cond_false] at hsh
                cases h2 : Nat.ble a 199 with
                | true =>
                  rw [h2] at hsh
                  simp only [cond_true] at hsh
                  have hs := List.all_eq_true.mp sx_shS_ok a (List.mem_range.mpr (by have := sx_ble_t h2; omega))
                  have h15 : Nat.blt a 15 = false := by
                    cases hc : Nat.blt a 15 with
                    | false => rfl
                    | true => have := Nat.le_of_ble_eq_true hc; have := sx_ble_f h1; omega
                  rw [h15, Bool.false_or, hsh] at hs
                  simp only [sx_shok] at hs
                  cases hw : vwCl[ci]? with
                  | none => rw [hw] at hs; simp at hs
                  | some w => exact ⟨w, rfl⟩
                | false =>
                  rw [h2] at hsh
                  simp only [cond_false] at hsh
                  cases hc : Nat.beq ((a - 200) % 3) 0 with
                  | true => rw [hc] at hsh; cases hsh; omega
                  | false => rw [hc] at hsh; cases hsh
            obtain ⟨w, hw⟩ := this
            have := (List.getElem?_eq_some_iff.mp hw).1
            exact hlt this
        split at h
        · rename_i b hg
          exact key _ hci h (fun P => by rw [if_pos hr, hg]; rfl)
        · rename_i hg
          exact key _ hci h (fun P => by rw [if_pos hr, hg]; rfl)
      · rename_i hci hq1
        refine key _ hci h (fun P => ?_)
        have hr : ¬ sx_isr ci k = true := by
          intro hr
          by_cases hlt : ci < 8
          · obtain ⟨w', -, -, -, -, hq⟩ := okA hlt
            exact hq1 (hq.mpr hr)
          · have h8 : sx_isrT.length ≤ ci := by show 8 ≤ ci; omega
            have e0 : sx_isrT.getD ci [] = [] := by rw [List.getD_eq_getElem?_getD, List.getElem?_eq_none h8]; rfl
            unfold sx_isr at hr
            rw [e0] at hr
            simp at hr
        rw [if_neg hr]
        rfl
      · exact h.elim
    · rename_i si n2 hal hsh
      have key : ∀ (v v2 : Value), f mc ms cs L (v :: r) I G → (∀ P : sx_P, sx_tv P v = v2 ∨ (v2 = v2 ∧ True)) → True := fun _ _ _ _ => trivial
      split at h
      · rename_i hci
        have hci := Nat.eq_of_beq_eq_true hci
        subst hci
        refine sx_v_go (fun P p l e R s m args below meth c H locs cells slots Q ls mcT msT C hx hb hl hS hR k2 => ?_) (N _ _ _ _ _ _ h)
        obtain ⟨hsi, rfl⟩ := sx_sh_str hR.2.2.2.2.1 hsh
        obtain ⟨hx, hb, hml, hown, hts, -, -, -, -, -, -, -, hRO, -⟩ := C
        show W _ _ _ _ _ _ _ _ _ _ _ _ _ _ _ (F0 m pc ls (.ref (sx_tr P (2 + si)) :: _))
        rw [show sx_tr P (2 + si) = P.1 (2 + si) from if_pos (by omega)]
        refine vk_getf hx hb ((hRO.2.2.2.2.2.1.1 si hsi).2.2.1) hS hown (hts _ ((okB rfl).1 rfl)) (fun _ h9 => h9) hd ?_
        have e : sx_tv P (.ref (8 + si)) = .ref (P.1 (8 + si)) := sx_tv_ro (by omega)
        rw [← e]; exact k2
      · rename_i hci hq1
        have hci := Nat.eq_of_beq_eq_true hci
        subst hci
        refine sx_v_go (fun P p l e R s m args below meth c H locs cells slots Q ls mcT msT C hx hb hl hS hR k2 => ?_) (N _ _ _ _ _ _ h)
        obtain ⟨hsi, rfl⟩ := sx_sh_str hR.2.2.2.2.1 hsh
        obtain ⟨hx, hb, hml, hown, hts, -, -, -, -, -, -, -, hRO, -⟩ := C
        show W _ _ _ _ _ _ _ _ _ _ _ _ _ _ _ (F0 m pc ls (.ref (sx_tr P (2 + si)) :: _))
        rw [show sx_tr P (2 + si) = P.1 (2 + si) from if_pos (by omega)]
        exact vk_getf hx hb ((hRO.2.2.2.2.2.1.1 si hsi).2.1) hS hown (hts _ ((okB rfl).2 hq1)) (fun _ h9 => h9) hd k2
      · exact h.elim
    · exact h.elim
  · exact h.elim
end
