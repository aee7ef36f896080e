/-! ===== the reference: tape, images, rows that wait, what there is ===== -/
theorem sx_up_swap {a b : Nat} (h : a ≠ b) (I : sx_I) (f g : Nat → Int32) : sx_up (sx_up I a f) b g = sx_up (sx_up I b g) a f := by
  funext i
  unfold sx_up
  by_cases h1 : i = a
  · subst h1
    rw [if_neg h, if_pos rfl, if_pos rfl]
  · by_cases h2 : i = b
    · subst h2
      rw [if_pos rfl, if_neg h1, if_pos rfl]
    · rw [if_neg h2, if_neg h1, if_neg h1, if_neg h2]
def gs_trim (x : Int32) (v : Int32) : Int32 := if gs_in v 0 x = 0 then -1000000001 else v
section
variable {d m : Nat} {I : sx_I} {rw : Nat → Nat → Option Nat} {ln : Nat → Nat} {K : sx_K}
theorem v_aside7980 {J : sx_I} (hk : K none (sx_up J 80 (gs_62 (J 80) (J 79) 2862)) (sx_run rw m ln)) : ∀ (r k : Nat) (I : sx_I), k + r = 2862 → I = sx_up J 80 (gs_62 (J 80) (J 79) k) → sx_V 207 (d + 1) 0 0 K 2 [(1, .ref 79), (2, .ref 80), (3, .int (nI k))] [] I (sx_run rw m ln) := by
  refine sx_for 2862 (fun I h => ?_) (fun k I hk2 h ih => ?_)
  · subst h
    refine sx_go m207 60 rfl (fun VV CC hV hC => ?_)
    exact ⟨fun _ => hk, fun c1 => absurd (nI_le (Nat.le_refl 2862) (by decide)) c1⟩
  · refine sx_go m207 60 rfl (fun VV CC hV hC => ?_)
    refine ⟨fun c1 => absurd c1 (nI_ge hk2 (by decide)), fun c1 => ⟨k, ⟨rfl, by omega⟩, k, ⟨rfl, by omega⟩, hV _ _ _ _ _ _ _ ?_⟩⟩
    have ea : I 79 = J 79 := by rw [h]; exact sx_up_ne (by decide)
    have eb : I 80 = gs_62 (J 80) (J 79) k := by rw [h]; exact sx_up_same _ _ _
    have := ih (sx_up I 80 (upd (I 80) k (I 79 k))) (by rw [eb, ea, gs_62_s, h, sx_upup])
    rw [nI_succ] at this
    exact this
theorem c_aside7980 (hk : K none (sx_up I 80 (gs_62 (I 80) (I 79) 2862)) (sx_run rw m ln)) : sx_C 207 (d + 1) [.ref 78, .ref 79, .ref 80] I (sx_run rw m ln) K := by
  refine sx_enter (by decide +kernel) (Nat.le_of_ble_eq_true rfl) (sx_go m207 60 rfl (fun VV CC hV hC => hV _ _ _ _ _ _ _ ?_))
  exact v_aside7980 (d := d) (J := I) hk 2862 0 I (by omega) (by rw [gs_62_0, sx_upself])
theorem v_aside8079 {J : sx_I} (hk : K none (sx_up J 79 (gs_62 (J 79) (J 80) 2862)) (sx_run rw m ln)) : ∀ (r k : Nat) (I : sx_I), k + r = 2862 → I = sx_up J 79 (gs_62 (J 79) (J 80) k) → sx_V 207 (d + 1) 0 0 K 2 [(1, .ref 80), (2, .ref 79), (3, .int (nI k))] [] I (sx_run rw m ln) := by
  refine sx_for 2862 (fun I h => ?_) (fun k I hk2 h ih => ?_)
  · subst h
    refine sx_go m207 60 rfl (fun VV CC hV hC => ?_)
    exact ⟨fun _ => hk, fun c1 => absurd (nI_le (Nat.le_refl 2862) (by decide)) c1⟩
  · refine sx_go m207 60 rfl (fun VV CC hV hC => ?_)
    refine ⟨fun c1 => absurd c1 (nI_ge hk2 (by decide)), fun c1 => ⟨k, ⟨rfl, by omega⟩, k, ⟨rfl, by omega⟩, hV _ _ _ _ _ _ _ ?_⟩⟩
    have ea : I 80 = J 80 := by rw [h]; exact sx_up_ne (by decide)
    have eb : I 79 = gs_62 (J 79) (J 80) k := by rw [h]; exact sx_up_same _ _ _
    have := ih (sx_up I 79 (upd (I 79) k (I 80 k))) (by rw [eb, ea, gs_62_s, h, sx_upup])
    rw [nI_succ] at this
    exact this
theorem c_aside8079 (hk : K none (sx_up I 79 (gs_62 (I 79) (I 80) 2862)) (sx_run rw m ln)) : sx_C 207 (d + 1) [.ref 78, .ref 80, .ref 79] I (sx_run rw m ln) K := by
  refine sx_enter (by decide +kernel) (Nat.le_of_ble_eq_true rfl) (sx_go m207 60 rfl (fun VV CC hV hC => hV _ _ _ _ _ _ _ ?_))
  exact v_aside8079 (d := d) (J := I) hk 2862 0 I (by omega) (by rw [gs_62_0, sx_upself])
theorem v_aside7981 {J : sx_I} (hk : K none (sx_up J 81 (gs_62 (J 81) (J 79) 2862)) (sx_run rw m ln)) : ∀ (r k : Nat) (I : sx_I), k + r = 2862 → I = sx_up J 81 (gs_62 (J 81) (J 79) k) → sx_V 207 (d + 1) 0 0 K 2 [(1, .ref 79), (2, .ref 81), (3, .int (nI k))] [] I (sx_run rw m ln) := by
  refine sx_for 2862 (fun I h => ?_) (fun k I hk2 h ih => ?_)
  · subst h
    refine sx_go m207 60 rfl (fun VV CC hV hC => ?_)
    exact ⟨fun _ => hk, fun c1 => absurd (nI_le (Nat.le_refl 2862) (by decide)) c1⟩
  · refine sx_go m207 60 rfl (fun VV CC hV hC => ?_)
    refine ⟨fun c1 => absurd c1 (nI_ge hk2 (by decide)), fun c1 => ⟨k, ⟨rfl, by omega⟩, k, ⟨rfl, by omega⟩, hV _ _ _ _ _ _ _ ?_⟩⟩
    have ea : I 79 = J 79 := by rw [h]; exact sx_up_ne (by decide)
    have eb : I 81 = gs_62 (J 81) (J 79) k := by rw [h]; exact sx_up_same _ _ _
    have := ih (sx_up I 81 (upd (I 81) k (I 79 k))) (by rw [eb, ea, gs_62_s, h, sx_upup])
    rw [nI_succ] at this
    exact this
theorem c_aside7981 (hk : K none (sx_up I 81 (gs_62 (I 81) (I 79) 2862)) (sx_run rw m ln)) : sx_C 207 (d + 1) [.ref 78, .ref 79, .ref 81] I (sx_run rw m ln) K := by
  refine sx_enter (by decide +kernel) (Nat.le_of_ble_eq_true rfl) (sx_go m207 60 rfl (fun VV CC hV hC => hV _ _ _ _ _ _ _ ?_))
  exact v_aside7981 (d := d) (J := I) hk 2862 0 I (by omega) (by rw [gs_62_0, sx_upself])
theorem v_aside8179 {J : sx_I} (hk : K none (sx_up J 79 (gs_62 (J 79) (J 81) 2862)) (sx_run rw m ln)) : ∀ (r k : Nat) (I : sx_I), k + r = 2862 → I = sx_up J 79 (gs_62 (J 79) (J 81) k) → sx_V 207 (d + 1) 0 0 K 2 [(1, .ref 81), (2, .ref 79), (3, .int (nI k))] [] I (sx_run rw m ln) := by
  refine sx_for 2862 (fun I h => ?_) (fun k I hk2 h ih => ?_)
  · subst h
    refine sx_go m207 60 rfl (fun VV CC hV hC => ?_)
    exact ⟨fun _ => hk, fun c1 => absurd (nI_le (Nat.le_refl 2862) (by decide)) c1⟩
  · refine sx_go m207 60 rfl (fun VV CC hV hC => ?_)
    refine ⟨fun c1 => absurd c1 (nI_ge hk2 (by decide)), fun c1 => ⟨k, ⟨rfl, by omega⟩, k, ⟨rfl, by omega⟩, hV _ _ _ _ _ _ _ ?_⟩⟩
    have ea : I 81 = J 81 := by rw [h]; exact sx_up_ne (by decide)
    have eb : I 79 = gs_62 (J 79) (J 81) k := by rw [h]; exact sx_up_same _ _ _
    have := ih (sx_up I 79 (upd (I 79) k (I 81 k))) (by rw [eb, ea, gs_62_s, h, sx_upup])
    rw [nI_succ] at this
    exact this
theorem c_aside8179 (hk : K none (sx_up I 79 (gs_62 (I 79) (I 81) 2862)) (sx_run rw m ln)) : sx_C 207 (d + 1) [.ref 78, .ref 81, .ref 79] I (sx_run rw m ln) K := by
  refine sx_enter (by decide +kernel) (Nat.le_of_ble_eq_true rfl) (sx_go m207 60 rfl (fun VV CC hV hC => hV _ _ _ _ _ _ _ ?_))
  exact v_aside8179 (d := d) (J := I) hk 2862 0 I (by omega) (by rw [gs_62_0, sx_upself])
theorem c_trim {t : Nat} {v : Int32} (ht : I 78 14 = nI t) (ht9 : t ≤ 96) (hk : K (some (.int (gs_trim (I 78 14) v))) (if gs_in v 0 (I 78 14) = 0 then I else sx_up I 78 (upd (I 78) 14 v)) (sx_run rw m ln)) : sx_C 171 (d + 2) [.ref 78, .int v] I (sx_run rw m ln) K := by
  refine sx_enter (by decide +kernel) (Nat.le_of_ble_eq_true rfl) (sx_go m171 60 rfl (fun VV CC hV hC => ?_))
  unfold gs_trim at hk
  refine hC _ _ _ _ _ (c_isIn rfl (by decide +kernel) rfl ⟨fun (c1 : ¬ gs_in v 0 (I 78 14) = 0) => ?_, fun (c1 : gs_in v 0 (I 78 14) = 0) => ?_⟩)
  · rw [if_neg c1, if_neg c1] at hk; exact hk
  · rw [if_pos c1, if_pos c1] at hk; exact hk
theorem c_keep (hk : K (some (.int (I 79 0))) (sx_up (sx_up I 78 (upd (I 78) 3 (nI 1))) 80 (gs_62 (I 80) (I 79) 2862)) (sx_run rw m ln)) : sx_C 209 (d + 2) [.ref 78] I (sx_run rw m ln) K := by
  refine sx_enter (by decide +kernel) (Nat.le_of_ble_eq_true rfl) (sx_go m209 60 rfl (fun VV CC hV hC => ?_))
  refine ⟨Or.inr rfl, hC _ _ _ _ _ (c_aside7980 ⟨0, ⟨rfl, by omega⟩, ?_⟩)⟩
  exact hk
def gs_back (has : Int32) (s im : Nat → Int32) : (Nat → Int32) × Int32 := if has = 0 then (s, -1000000002) else (gs_62 s im 2862, im 0)
theorem c_back (hk : K (some (.int (gs_back (I 78 3) (I 79) (I 80)).2)) (sx_up I 79 (gs_back (I 78 3) (I 79) (I 80)).1) (sx_run rw m ln)) : sx_C 210 (d + 2) [.ref 78] I (sx_run rw m ln) K := by
  refine sx_enter (by decide +kernel) (Nat.le_of_ble_eq_true rfl) (sx_go m210 60 rfl (fun VV CC hV hC => ?_))
  refine ⟨fun (c1 : ¬ I 78 3 = 0) => hC _ _ _ _ _ (c_aside8079 ⟨0, ⟨rfl, by omega⟩, ?_⟩), fun (c1 : I 78 3 = 0) => ?_⟩
  · have hk := sx_kp (show gs_back (I 78 3) (I 79) (I 80) = _ from if_neg c1) hk
    exact hk
  · have hk := sx_kp (show gs_back (I 78 3) (I 79) (I 80) = _ from if_pos c1) hk
    rw [sx_upself] at hk
    exact hk
def gs_tell (f : Nat → Int32) (x : Int32) (v : Int32) : (Nat → Int32) × Int32 := if x = nI 60 then (f, -1000000003) else (upd f x.toNatClampNeg v, x + nI 1)
theorem c_tell {t : Nat} {v : Int32} (ht : I 78 29 = nI t) (ht9 : t ≤ 60) (hk : K (some (.int (gs_tell (I 95) (I 78 29) v).2)) (if I 78 29 = nI 60 then I else sx_up (sx_up I 95 (gs_tell (I 95) (I 78 29) v).1) 78 (upd (I 78) 29 (nI (t + 1)))) (sx_run rw m ln)) : sx_C 206 (d + 2) [.ref 78, .int v] I (sx_run rw m ln) K := by
  refine sx_enter (by decide +kernel) (Nat.le_of_ble_eq_true rfl) (sx_go m206 60 rfl (fun VV CC hV hC => ?_))
  unfold gs_tell at hk
  refine ⟨fun (c1 : ¬ I 78 29 = nI 60) => ?_, fun (c1 : I 78 29 = nI 60) => ?_⟩
  · rw [if_neg c1, if_neg c1, ht, nI_clamp (by omega), nI_add] at hk
    refine ⟨t, ⟨ht, ?_⟩, ?_⟩
    · rcases Nat.lt_or_ge t 60 with q | q
      · exact q
      · exact absurd (by rw [ht, show t = 60 by omega]) c1
    · rw [show nI (t + 1) = I 78 29 + nI 1 by rw [ht, nI_add]] at hk
      exact hk
  · rw [if_pos c1, if_pos c1] at hk; exact hk
def gs_count (s : Nat → Int32) (waits taped : Int32) (w : Int32) : Int32 :=
  if w = 0 then s 0 else if w = nI 1 then s 2 else if w = nI 2 then s 3 else if w = nI 3 then s 4 else if w = nI 4 then s 5 else if w = nI 5 then s 6 else if w = nI 6 then s 1 else if w = nI 7 then waits else if w = nI 8 then taped else if w = nI 9 then s 11 else -1000000001
theorem c_count {w : Int32} (hk : K (some (.int (gs_count (I 79) (I 78 29) (I 78 14) w))) I (sx_run rw m ln)) : sx_C 211 (d + 2) [.ref 78, .int w] I (sx_run rw m ln) K := by
  refine sx_enter (by decide +kernel) (Nat.le_of_ble_eq_true rfl) (sx_go m211 60 rfl (fun VV CC hV hC => ?_))
  unfold gs_count at hk
  refine ⟨fun (c0 : w = 0) => ?_, fun (c0 : ¬ w = 0) => ⟨fun (c1 : w = nI 1) => ?_, fun (c1 : ¬ w = nI 1) => ⟨fun (c2 : w = nI 2) => ?_, fun (c2 : ¬ w = nI 2) => ⟨fun (c3 : w = nI 3) => ?_, fun (c3 : ¬ w = nI 3) => ⟨fun (c4 : w = nI 4) => ?_, fun (c4 : ¬ w = nI 4) => ⟨fun (c5 : w = nI 5) => ?_, fun (c5 : ¬ w = nI 5) => ⟨fun (c6 : w = nI 6) => ?_, fun (c6 : ¬ w = nI 6) => ⟨fun (c7 : w = nI 7) => ?_, fun (c7 : ¬ w = nI 7) => ⟨fun (c8 : w = nI 8) => ?_, fun (c8 : ¬ w = nI 8) => ⟨fun (c9 : w = nI 9) => ?_, fun (c9 : ¬ w = nI 9) => ?_⟩⟩⟩⟩⟩⟩⟩⟩⟩⟩
  · rw [if_pos c0] at hk; exact ⟨0, ⟨rfl, by omega⟩, hk⟩
  · rw [if_neg c0, if_pos c1] at hk; exact ⟨2, ⟨rfl, by omega⟩, hk⟩
  · rw [if_neg c0, if_neg c1, if_pos c2] at hk; exact ⟨3, ⟨rfl, by omega⟩, hk⟩
  · rw [if_neg c0, if_neg c1, if_neg c2, if_pos c3] at hk; exact ⟨4, ⟨rfl, by omega⟩, hk⟩
  · rw [if_neg c0, if_neg c1, if_neg c2, if_neg c3, if_pos c4] at hk; exact ⟨5, ⟨rfl, by omega⟩, hk⟩
  · rw [if_neg c0, if_neg c1, if_neg c2, if_neg c3, if_neg c4, if_pos c5] at hk; exact ⟨6, ⟨rfl, by omega⟩, hk⟩
  · rw [if_neg c0, if_neg c1, if_neg c2, if_neg c3, if_neg c4, if_neg c5, if_pos c6] at hk; exact ⟨1, ⟨rfl, by omega⟩, hk⟩
  · rw [if_neg c0, if_neg c1, if_neg c2, if_neg c3, if_neg c4, if_neg c5, if_neg c6, if_pos c7] at hk; exact hk
  · rw [if_neg c0, if_neg c1, if_neg c2, if_neg c3, if_neg c4, if_neg c5, if_neg c6, if_neg c7, if_pos c8] at hk; exact hk
  · rw [if_neg c0, if_neg c1, if_neg c2, if_neg c3, if_neg c4, if_neg c5, if_neg c6, if_neg c7, if_neg c8, if_pos c9] at hk; exact ⟨11, ⟨rfl, by omega⟩, hk⟩
  · rw [if_neg c0, if_neg c1, if_neg c2, if_neg c3, if_neg c4, if_neg c5, if_neg c6, if_neg c7, if_neg c8, if_neg c9] at hk; exact hk
end
