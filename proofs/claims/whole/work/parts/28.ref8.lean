/-! ===== the reference: what will be ===== -/
def gs_cut (s : Nat → Int32) (v : Int32) : Nat := if v < nI 9999 - s 2 then v.toNatClampNeg else (nI 9999 - s 2).toNatClampNeg
def gs_nightsS (s : Nat → Int32) (v : Int32) : Nat → Int32 := if gs_in v (nI 1) (nI 100) = 0 then s else gs_many (gs_cut s v) s
def gs_nightsA (s : Nat → Int32) (v : Int32) : Int32 := if gs_in v (nI 1) (nI 100) = 0 then -1000000001 else gs_raids (gs_nightsS s v) - gs_raids s
theorem gs_in_iff {v a b : Int32} : ¬ gs_in v a b = 0 ↔ (a ≤ v ∧ v ≤ b) := by
  unfold gs_in
  by_cases h : a ≤ v ∧ v ≤ b
  · rw [if_pos h]; exact ⟨fun _ => h, fun _ => by decide +kernel⟩
  · rw [if_neg h]; exact ⟨fun q => absurd rfl q, fun q => absurd q h⟩
theorem gs_toInt {n : Nat} (h : n < 2 ^ 31) : (nI n).toInt = n := nI_toInt h
theorem gs_in_nat {v : Int32} {a b : Nat} (hb : b < 2 ^ 31) (h : ¬ gs_in v (nI a) (nI b) = 0) (ha : a < 2 ^ 31) : ∃ c, v = nI c ∧ a ≤ c ∧ c ≤ b := by
  have h := gs_in_iff.mp h
  rw [Int32.le_iff_toInt_le, Int32.le_iff_toInt_le, gs_toInt ha, gs_toInt hb] at h
  refine ⟨v.toInt.toNat, ?_, by omega, by omega⟩
  apply Int32.toInt_inj.mp
  rw [gs_toInt (by omega)]
  omega
/-- memory is as it was but for the reference's names, pile and the row laid aside -/
def gs_sd (I I' : sx_I) : Prop := ∀ a, a ≠ 90 → a ≠ 92 → a ≠ 93 → I' a = I a
theorem gs_sd.rf (I : sx_I) : gs_sd I I := fun _ _ _ _ => rfl
theorem gs_sd.tr {I I' I2 : sx_I} (h : gs_sd I I') (h2 : gs_sd I' I2) : gs_sd I I2 := fun a h3 h4 h5 => (h2 a h3 h4 h5).trans (h a h3 h4 h5)
theorem gs_sc.sd {I I' : sx_I} (h : gs_sc I I') : gs_sd I I' := fun a _ h2 h3 => h a h2 h3
def gs_62 (f g : Nat → Int32) (k i : Nat) : Int32 := if i < k then g i else f i
theorem gs_62_0 (f g : Nat → Int32) : gs_62 f g 0 = f := by
  funext i
  unfold gs_62
  rw [if_neg (Nat.not_lt_zero i)]
theorem gs_62_s (f g : Nat → Int32) (k : Nat) : upd (gs_62 f g k) k (g k) = gs_62 f g (k + 1) := by
  funext i
  unfold upd gs_62
  by_cases e : i = k
  · rw [if_pos e, if_pos (by omega), e]
  · rw [if_neg e]
    by_cases h : i < k
    · rw [if_pos h, if_pos (by omega)]
    · rw [if_neg h, if_neg (by omega)]
theorem gs_62_back {s s' a : Nat → Int32} (h : gs_lo s s') (ha : ∀ i, i < 62 → a i = s i) : gs_62 s' a 62 = s := by
  funext i
  unfold gs_62
  by_cases e : i < 62
  · rw [if_pos e, ha i e]
  · rw [if_neg e, h.2.2 i (by omega)]
section
variable {d m : Nat} {I : sx_I} {rw : Nat → Nat → Option Nat} {ln : Nat → Nat} {K : sx_K}
theorem c_nights {n t : Nat} {v : Int32} (hn : I 79 0 = nI n) (hn10 : n ≤ 10) (htx : gs_tx (I 79)) (ht : I 79 2 = nI t) (ht9 : t ≤ 9999) (hk : ∀ I', gs_sc (sx_up I 79 (gs_nightsS (I 79) v)) I' → K (some (.int (gs_nightsA (I 79) v))) I' (sx_run rw m ln)) : sx_C 153 (d + 9) [.ref 78, .int v] I (sx_run rw m ln) K := by
  refine sx_enter (by decide +kernel) (Nat.le_of_ble_eq_true rfl) (sx_go m153 60 rfl (fun VV CC hV hC => ?_))
  refine hC _ _ _ _ _ (c_isIn rfl (by decide +kernel) (by decide +kernel) ⟨fun (c1 : ¬ gs_in v (nI 1) (nI 100) = 0) => ?_, fun (c1 : gs_in v (nI 1) (nI 100) = 0) => ?_⟩)
  · have eS : gs_nightsS (I 79) v = gs_many (gs_cut (I 79) v) (I 79) := if_neg c1
    have eA : gs_nightsA (I 79) v = gs_raids (gs_nightsS (I 79) v) - gs_raids (I 79) := if_neg c1
    rw [eA, eS] at hk
    obtain ⟨c, rfl, hc1, hc2⟩ := gs_in_nat (by decide) c1 (by decide)
    refine hC _ _ _ _ _ (c_raids ⟨2, ⟨rfl, by omega⟩, fun c2 => ?_, fun c2 => ?_⟩)
    · rw [ht, pk_sub (by omega)] at c2 ⊢
      have e : gs_cut (I 79) (nI c) = 9999 - t := by
        unfold gs_cut
        rw [ht, pk_sub (by omega), if_neg (Int32.not_lt.mpr c2), nI_clamp (by omega)]
      rw [e] at hk
      exact hC _ _ _ _ _ (c_many rfl (by omega) hn hn10 htx (fun I2 h2 => hC _ _ _ _ _ (c_raids (sx_kk (by rw [h2.at]) (hk I2 h2)))))
    · rw [ht, pk_sub (by omega)] at c2
      have e : gs_cut (I 79) (nI c) = c := by
        unfold gs_cut
        rw [ht, pk_sub (by omega), if_pos (Int32.not_le.mp c2), nI_clamp (by omega)]
      rw [e] at hk
      exact hC _ _ _ _ _ (c_many rfl (by omega) hn hn10 htx (fun I2 h2 => hC _ _ _ _ _ (c_raids (sx_kk (by rw [h2.at]) (hk I2 h2)))))
  · have eS : gs_nightsS (I 79) v = I 79 := if_pos c1
    have eA : gs_nightsA (I 79) v = -1000000001 := if_pos c1
    rw [eA, eS, sx_upself] at hk
    exact hk I (gs_sc.rf I)
theorem v_laysBy {J : sx_I} (hk : K none (sx_up J 90 (gs_62 (J 90) (J 79) 62)) (sx_run rw m ln)) : ∀ (r k : Nat) (I : sx_I), k + r = 62 → I = sx_up J 90 (gs_62 (J 90) (J 79) k) → sx_V 160 (d + 1) 0 0 K 2 [(0, .ref 78), (1, .int (nI k))] [] I (sx_run rw m ln) := by
  refine sx_for 62 (fun I h => ?_) (fun k I hk2 h ih => ?_)
  · subst h
    refine sx_go m160 60 rfl (fun VV CC hV hC => ?_)
    exact ⟨fun _ => hk, fun c1 => absurd (nI_le (Nat.le_refl 62) (by decide)) c1⟩
  · refine sx_go m160 60 rfl (fun VV CC hV hC => ?_)
    refine ⟨fun c1 => absurd c1 (nI_ge hk2 (by decide)), fun c1 => ⟨k, ⟨rfl, by omega⟩, k, ⟨rfl, by omega⟩, hV _ _ _ _ _ _ _ ?_⟩⟩
    have e79 : I 79 = J 79 := by rw [h]; exact sx_up_ne (by decide)
    have e90 : I 90 = gs_62 (J 90) (J 79) k := by rw [h]; exact sx_up_same _ _ _
    have := ih (sx_up I 90 (upd (I 90) k (I 79 k))) (by rw [e90, e79, gs_62_s, h, sx_upup])
    rw [nI_succ] at this
    exact this
theorem c_laysBy (hk : K none (sx_up I 90 (gs_62 (I 90) (I 79) 62)) (sx_run rw m ln)) : sx_C 160 (d + 1) [.ref 78] I (sx_run rw m ln) K := by
  refine sx_enter (by decide +kernel) (Nat.le_of_ble_eq_true rfl) (sx_go m160 60 rfl (fun VV CC hV hC => hV _ _ _ _ _ _ _ ?_))
  exact v_laysBy (d := d) (J := I) hk 62 0 I (by omega) (by rw [gs_62_0, sx_upself])
theorem v_laysBack {J : sx_I} (hk : K none (sx_up J 79 (gs_62 (J 79) (J 90) 62)) (sx_run rw m ln)) : ∀ (r k : Nat) (I : sx_I), k + r = 62 → I = sx_up J 79 (gs_62 (J 79) (J 90) k) → sx_V 161 (d + 1) 0 0 K 2 [(0, .ref 78), (1, .int (nI k))] [] I (sx_run rw m ln) := by
  refine sx_for 62 (fun I h => ?_) (fun k I hk2 h ih => ?_)
  · subst h
    refine sx_go m161 60 rfl (fun VV CC hV hC => ?_)
    exact ⟨fun _ => hk, fun c1 => absurd (nI_le (Nat.le_refl 62) (by decide)) c1⟩
  · refine sx_go m161 60 rfl (fun VV CC hV hC => ?_)
    refine ⟨fun c1 => absurd c1 (nI_ge hk2 (by decide)), fun c1 => ⟨k, ⟨rfl, by omega⟩, k, ⟨rfl, by omega⟩, hV _ _ _ _ _ _ _ ?_⟩⟩
    have e79 : I 79 = gs_62 (J 79) (J 90) k := by rw [h]; exact sx_up_same _ _ _
    have e90 : I 90 = J 90 := by rw [h]; exact sx_up_ne (by decide)
    have := ih (sx_up I 79 (upd (I 79) k (I 90 k))) (by rw [e90, e79, gs_62_s, h, sx_upup])
    rw [nI_succ] at this
    exact this
theorem c_laysBack (hk : K none (sx_up I 79 (gs_62 (I 79) (I 90) 62)) (sx_run rw m ln)) : sx_C 161 (d + 1) [.ref 78] I (sx_run rw m ln) K := by
  refine sx_enter (by decide +kernel) (Nat.le_of_ble_eq_true rfl) (sx_go m161 60 rfl (fun VV CC hV hC => hV _ _ _ _ _ _ _ ?_))
  exact v_laysBack (d := d) (J := I) hk 62 0 I (by omega) (by rw [gs_62_0, sx_upself])
end
