/-! ===== the reference: bytes onto the tape; sheets and slots ===== -/
def gs_byte (a b c : Int32) (i : Nat) : Int32 := ((if i < 4 then a else if i < 8 then b else c) >>> ((nI 24 - nI 8 * gs_rem (nI i) (nI 4)) &&& 31)) &&& nI 255
def gs_tp (f : Nat → Int32) (t : Nat) (w : Nat → Int32) : Nat → Nat → Int32
  | 0 => f
  | k + 1 => upd (gs_tp f t w k) (t + k) (w k)
section
variable {d m : Nat} {I : sx_I} {rw : Nat → Nat → Option Nat} {ln : Nat → Nat} {K : sx_K}
theorem v_feed {J : sx_I} {a b c : Int32} {t : Nat} (ht : J 78 14 = nI t) (ht9 : t + 12 ≤ 96) (hk : K (some (.int (nI (t + 12)))) (sx_up (sx_up J 91 (gs_tp (J 91) t (gs_byte a b c) 12)) 78 (upd (J 78) 14 (nI (t + 12)))) (sx_run rw m ln)) :
    ∀ (r k : Nat) (I : sx_I), k + r = 12 → (I = sx_up (sx_up J 91 (gs_tp (J 91) t (gs_byte a b c) k)) 78 (upd (J 78) 14 (nI (t + k)))) → sx_V 170 (d + 1) 0 0 K 18 [(0, .ref 78), (1, .int a), (2, .int b), (3, .int c), (4, .int (nI k))] [] I (sx_run rw m ln) := by
  refine sx_for 12 (fun I h => ?_) (fun k I hk2 h ih => ?_)
  · subst h
    refine sx_go m170 60 rfl (fun VV CC hV hC => ?_)
    refine ⟨fun _ => sx_kk ?_ hk, fun c1 => absurd (nI_le (Nat.le_refl 12) (by decide)) c1⟩
    rw [sx_up_same, pk_us]
  · have e78 : I 78 14 = nI (t + k) := by rw [h, sx_up_same, pk_us]
    have e91 : I 91 = gs_tp (J 91) t (gs_byte a b c) k := by rw [h, sx_up_ne (by decide), sx_up_same]
    have nxt : ∀ v u, v = gs_byte a b c k → u = nI (t + k) + nI 1 → sx_V 170 (d + 1) 0 0 K 18 [(0, .ref 78), (1, .int a), (2, .int b), (3, .int c), (4, .int (nI k + nI 1))] [] (sx_up (sx_up I 91 (upd (I 91) (t + k) v)) 78 (upd (sx_up I 91 (upd (I 91) (t + k) v) 78) 14 u)) (sx_run rw m ln) := by
      intro v u hv hu
      have := ih (sx_up (sx_up I 91 (upd (I 91) (t + k) v)) 78 (upd (sx_up I 91 (upd (I 91) (t + k) v) 78) 14 u)) (by
        rw [e91, hv, hu, nI_add, sx_up_ne (by decide), h, sx_up_same]
        rw [sx_up_swap (a := 78) (b := 91) (by decide), sx_upup, sx_upup]
        congr 1
        funext i
        unfold upd
        by_cases e : i = 14
        · rw [if_pos e, if_pos e]; rfl
        · rw [if_neg e, if_neg e, if_neg e])
      rw [nI_succ] at this
      exact this
    refine sx_go m170 100 rfl (fun VV CC hV hC => ?_)
    refine ⟨fun c1 => absurd c1 (nI_ge hk2 (by decide)), fun c1 => ⟨fun (c2 : nI 4 ≤ nI k) => ⟨fun (c3 : nI 8 ≤ nI k) => ⟨by decide +kernel, t + k, ⟨e78, by omega⟩, hV _ _ _ _ _ _ _ (nxt _ _ ?_ ?_)⟩, fun (c3 : ¬ nI 8 ≤ nI k) => ⟨by decide +kernel, t + k, ⟨e78, by omega⟩, hV _ _ _ _ _ _ _ (nxt _ _ ?_ ?_)⟩⟩, fun (c2 : ¬ nI 4 ≤ nI k) => ⟨by decide +kernel, t + k, ⟨e78, by omega⟩, hV _ _ _ _ _ _ _ (nxt _ _ ?_ ?_)⟩⟩⟩
    · rw [nI_leI (by omega) (by omega)] at c2 c3
      unfold gs_byte
      rw [if_neg (by omega), if_neg (by omega)]; rfl
    · rw [sx_up_ne (by decide), e78]
    · rw [nI_leI (by omega) (by omega)] at c2 c3
      unfold gs_byte
      rw [if_neg (by omega), if_pos (by omega)]; rfl
    · rw [sx_up_ne (by decide), e78]
    · rw [nI_leI (by omega) (by omega)] at c2
      unfold gs_byte
      rw [if_pos (by omega)]; rfl
    · rw [sx_up_ne (by decide), e78]
theorem c_feed {a b c : Int32} {t : Nat} (ht : I 78 14 = nI t) (ht9 : t ≤ 96) (hk0 : 96 < t + 12 → K (some (.int (-1000000003))) I (sx_run rw m ln)) (hk : t + 12 ≤ 96 → K (some (.int (nI (t + 12)))) (sx_up (sx_up I 91 (gs_tp (I 91) t (gs_byte a b c) 12)) 78 (upd (I 78) 14 (nI (t + 12)))) (sx_run rw m ln)) : sx_C 170 (d + 1) [.ref 78, .int a, .int b, .int c] I (sx_run rw m ln) K := by
  refine sx_enter (by decide +kernel) (Nat.le_of_ble_eq_true rfl) (sx_go m170 60 rfl (fun VV CC hV hC => ?_))
  have e : I 78 14 + nI 12 = nI (t + 12) := by rw [ht, nI_add]
  refine ⟨fun (c1 : I 78 14 + nI 12 ≤ nI 96) => ?_, fun (c1 : ¬ I 78 14 + nI 12 ≤ nI 96) => ?_⟩
  · rw [e, nI_leI (by omega) (by omega)] at c1
    refine hV _ _ _ _ _ _ _ (v_feed (d := d) ht c1 (hk c1) 12 0 I (by omega) ?_)
    have e2 : upd (I 78) 14 (nI (t + 0)) = I 78 := by
      funext i
      unfold upd
      by_cases q : i = 14
      · rw [if_pos q, q, ht]; rfl
      · rw [if_neg q]
    rw [e2]
    show I = sx_up (sx_up I 91 (I 91)) 78 (I 78)
    rw [sx_upself, sx_upself]
  · rw [e, nI_leI (by omega) (by omega)] at c1
    exact hk0 (by omega)
theorem c_isSheet {v : Int32} {G : sx_G} (hk : K (some (.int (gs_in v 0 (nI 3)))) I G) : sx_C 193 (d + 2) [.int v] I G K := by
  refine sx_enter (by decide +kernel) (Nat.le_of_ble_eq_true rfl) (sx_go m193 40 rfl (fun VV CC hV hC => ?_))
  exact hC _ _ _ _ _ (c_isIn rfl (by decide +kernel) (by decide +kernel) ⟨gs_in01 _ _ _, hk⟩)
theorem c_isSlot {v : Int32} {G : sx_G} (hk : K (some (.int (gs_in v 0 (nI 4)))) I G) : sx_C 201 (d + 2) [.int v] I G K := by
  refine sx_enter (by decide +kernel) (Nat.le_of_ble_eq_true rfl) (sx_go m201 40 rfl (fun VV CC hV hC => ?_))
  exact hC _ _ _ _ _ (c_isIn rfl (by decide +kernel) (by decide +kernel) ⟨gs_in01 _ _ _, hk⟩)
end
