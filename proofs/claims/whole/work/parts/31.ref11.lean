/-! ===== the reference: the best of several ===== -/
def gs_best (b0 : Int32) (lab f : Nat → Int32) : Nat → Int32 × Int32
  | 0 => (b0, -1)
  | k + 1 => (if (gs_best b0 lab f k).2 < f k then lab k else (gs_best b0 lab f k).1, if (gs_best b0 lab f k).2 < f k then f k else (gs_best b0 lab f k).2)
def gs_reF (s : Nat → Int32) (g p : Int32) (k : Nat) : Int32 := if nI k = g then 0 else if ¬ gs_lives (s (12 + 5 * k + 0)) = 0 then 0 else if nI 3 ≤ gs_off (s (12 + 5 * k + 1)) p then 0 else nI 1
def gs_reach (s : Nat → Int32) (g p : Int32) : Int32 := gs_sum (gs_reF s g p) (gs_N s)
def gs_covF (s : Nat → Int32) (g : Int32) (p : Nat) : Int32 := if ¬ gs_whoV s (gs_N s) (nI p) < 0 ∧ ¬ gs_whoV s (gs_N s) (nI p) = g then -1 else gs_reach s g (nI p)
def gs_covers (s : Nat → Int32) (g w : Int32) : Int32 := if gs_in g 0 (s 0 - nI 1) = 0 ∨ gs_in w 0 (nI 1) = 0 then -1000000001 else if w = 0 then (gs_best (-1) nI (gs_covF s g) 20).1 else (gs_best (-1) nI (gs_covF s g) 20).2
section
variable {d m : Nat} {I : sx_I} {rw : Nat → Nat → Option Nat} {ln : Nat → Nat} {K : sx_K}
theorem v_reached {n : Nat} {g p : Int32} (hn : I 79 0 = nI n) (hn10 : n ≤ 10) (hk : K (some (.int (gs_sum (gs_reF (I 79) g p) n))) I (sx_run rw m ln)) :
    ∀ (r k : Nat) (I' : sx_I), k + r = n → I' = I → sx_V 157 (d + 3) 0 0 K 5 [(0, .ref 78), (1, .int g), (2, .int p), (3, .int (gs_sum (gs_reF (I 79) g p) k)), (4, .int (nI k))] [] I' (sx_run rw m ln) := by
  refine sx_for n (fun I' hsc => ?_) (fun k I' hkc hsc ih => ?_)
  · subst hsc
    refine sx_go m157 60 rfl (fun VV CC hV hC => ?_)
    refine ⟨0, ⟨rfl, by omega⟩, fun c1 => hk, fun c1 => ?_⟩
    exfalso; rw [hn] at c1; exact c1 (nI_le (Nat.le_refl _) (by omega))
  · subst hsc
    have nxt : ∀ v, v = gs_reF (I' 79) g p k → sx_V 157 (d + 3) 0 0 K 5 [(0, .ref 78), (1, .int g), (2, .int p), (3, .int (gs_sum (gs_reF (I' 79) g p) k + v)), (4, .int (nI k + nI 1))] [] I' (sx_run rw m ln) := by
      intro v hv
      have := ih I' rfl
      rw [nI_succ] at this
      rw [hv]
      exact this
    refine sx_go m157 60 rfl (fun VV CC hV hC => ?_)
    refine ⟨0, ⟨rfl, by omega⟩, fun c1 => ?_, fun c1 => ⟨fun (c2 : nI k = g) => hV _ _ _ _ _ _ _ (nxt _ (if_pos c2).symm), fun (c2 : ¬ nI k = g) => hC _ _ _ _ _ (c_lives8 rfl (by omega) ⟨fun (c3 : ¬ _ = _) => hV _ _ _ _ _ _ _ (nxt _ ?_), fun (c3 : _ = _) => hC _ _ _ _ _ (c_of rfl rfl (by omega) (hC _ _ _ _ _ (c_off ⟨fun (c4 : nI 3 ≤ _) => hV _ _ _ _ _ _ _ (nxt _ ?_), fun (c4 : ¬ nI 3 ≤ _) => hV _ _ _ _ _ _ _ (nxt _ ?_)⟩)))⟩)⟩⟩
    · exfalso; rw [hn] at c1; exact nI_ge hkc (by omega) c1
    · unfold gs_reF; rw [if_neg c2, if_pos c3]; rfl
    · unfold gs_reF; rw [if_neg c2, if_neg (fun h => h c3), if_pos c4]; rfl
    · unfold gs_reF; rw [if_neg c2, if_neg (fun h => h c3), if_neg c4]
theorem c_reached {n : Nat} {g p : Int32} (hn : I 79 0 = nI n) (hn10 : n ≤ 10) (hk : K (some (.int (gs_reach (I 79) g p))) I (sx_run rw m ln)) : sx_C 157 (d + 3) [.ref 78, .int g, .int p] I (sx_run rw m ln) K := by
  refine sx_enter (by decide +kernel) (Nat.le_of_ble_eq_true rfl) (sx_go m157 60 rfl (fun VV CC hV hC => hV _ _ _ _ _ _ _ ?_))
  unfold gs_reach at hk
  rw [gs_N_eq hn hn10] at hk
  exact v_reached (d := d) hn hn10 hk n 0 I (by omega) rfl
theorem v_covers {n : Nat} {g w : Int32} (hn : I 79 0 = nI n) (hn10 : n ≤ 10) (hk : K (some (.int (if w = 0 then (gs_best (-1) nI (gs_covF (I 79) g) 20).1 else (gs_best (-1) nI (gs_covF (I 79) g) 20).2))) I (sx_run rw m ln)) :
    ∀ (r k : Nat) (I' : sx_I), k + r = 20 → I' = I → sx_V 158 (d + 4) 0 0 K 29 [(0, .ref 78), (1, .int g), (2, .int w), (3, .int (gs_best (-1) nI (gs_covF (I 79) g) k).1), (4, .int (gs_best (-1) nI (gs_covF (I 79) g) k).2), (5, .int (nI k))] [] I' (sx_run rw m ln) := by
  refine sx_for 20 (fun I' hsc => ?_) (fun k I' hkc hsc ih => ?_)
  · subst hsc
    refine sx_go m158 60 rfl (fun VV CC hV hC => ?_)
    refine ⟨fun c1 => ⟨fun (c2 : ¬ w = 0) => ?_, fun (c2 : w = 0) => ?_⟩, fun c1 => absurd (nI_le (Nat.le_refl 20) (by omega)) c1⟩
    · rw [if_neg c2] at hk; exact hk
    · rw [if_pos c2] at hk; exact hk
  · subst hsc
    have fin : ∀ v, v = gs_covF (I' 79) g k → (gs_best (-1) nI (gs_covF (I' 79) g) k).2 < v → sx_V 158 (d + 4) 0 0 K 29 [(0, .ref 78), (1, .int g), (2, .int w), (3, .int (nI k)), (4, .int v), (5, .int (nI k + nI 1))] [] I' (sx_run rw m ln) := by
      intro v hv hlt
      have := ih I' rfl
      rw [nI_succ] at this
      rw [hv] at hlt ⊢
      rw [gs_best] at this
      dsimp only at this
      rw [if_pos hlt, if_pos hlt] at this
      exact this
    have fin2 : ∀ v, v = gs_covF (I' 79) g k → ¬ (gs_best (-1) nI (gs_covF (I' 79) g) k).2 < v → sx_V 158 (d + 4) 0 0 K 29 [(0, .ref 78), (1, .int g), (2, .int w), (3, .int (gs_best (-1) nI (gs_covF (I' 79) g) k).1), (4, .int (gs_best (-1) nI (gs_covF (I' 79) g) k).2), (5, .int (nI k + nI 1))] [] I' (sx_run rw m ln) := by
      intro v hv hlt
      have := ih I' rfl
      rw [nI_succ] at this
      rw [hv] at hlt
      rw [gs_best] at this
      dsimp only at this
      rw [if_neg hlt, if_neg hlt] at this
      exact this
    refine sx_go m158 60 rfl (fun VV CC hV hC => ?_)
    refine ⟨fun c1 => absurd c1 (nI_ge hkc (by omega)), fun c1 => ?_⟩
    have eN := gs_N_eq hn hn10
    refine hC _ _ _ _ _ (c_whose hn hn10 ⟨fun (c2 : gs_whoV (I' 79) n (nI k) < 0) => ?_, fun (c2 : ¬ gs_whoV (I' 79) n (nI k) < 0) => ⟨fun (c3 : ¬ gs_whoV (I' 79) n (nI k) = g) => ?_, fun (c3 : gs_whoV (I' 79) n (nI k) = g) => ?_⟩⟩)
    · have e : gs_reach (I' 79) g (nI k) = gs_covF (I' 79) g k := by
        unfold gs_covF; rw [eN, if_neg (fun h => h.1 c2)]
      refine hC _ _ _ _ _ (c_reached hn hn10 ⟨fun (c4 : gs_reach (I' 79) g (nI k) ≤ (gs_best (-1) nI (gs_covF (I' 79) g) k).2) => ⟨fun (c5 : _ ≤ _) => hV _ _ _ _ _ _ _ (fin2 _ e (Int32.not_lt.mpr c4)), fun (c5 : ¬ _ ≤ _) => absurd c4 c5⟩, fun (c4 : ¬ gs_reach (I' 79) g (nI k) ≤ (gs_best (-1) nI (gs_covF (I' 79) g) k).2) => ⟨fun (c5 : _ ≤ _) => absurd c5 c4, fun (c5 : ¬ _ ≤ _) => hV _ _ _ _ _ _ _ (fin _ e (Int32.not_le.mp c4))⟩⟩)
    · have e : (-1 : Int32) = gs_covF (I' 79) g k := by
        unfold gs_covF; rw [eN, if_pos ⟨c2, c3⟩]
      refine ⟨fun (c4 : -1 ≤ (gs_best (-1) nI (gs_covF (I' 79) g) k).2) => ⟨fun (c5 : _ ≤ _) => hV _ _ _ _ _ _ _ (fin2 _ e (Int32.not_lt.mpr c4)), fun (c5 : ¬ _ ≤ _) => absurd c4 c5⟩, fun (c4 : ¬ -1 ≤ (gs_best (-1) nI (gs_covF (I' 79) g) k).2) => ⟨fun (c5 : _ ≤ _) => absurd c5 c4, fun (c5 : ¬ _ ≤ _) => hV _ _ _ _ _ _ _ (fin _ e (Int32.not_le.mp c4))⟩⟩
    · have e : gs_reach (I' 79) g (nI k) = gs_covF (I' 79) g k := by
        unfold gs_covF; rw [eN, if_neg (fun h => h.2 c3)]
      refine hC _ _ _ _ _ (c_reached hn hn10 ⟨fun (c4 : gs_reach (I' 79) g (nI k) ≤ (gs_best (-1) nI (gs_covF (I' 79) g) k).2) => ⟨fun (c5 : _ ≤ _) => hV _ _ _ _ _ _ _ (fin2 _ e (Int32.not_lt.mpr c4)), fun (c5 : ¬ _ ≤ _) => absurd c4 c5⟩, fun (c4 : ¬ gs_reach (I' 79) g (nI k) ≤ (gs_best (-1) nI (gs_covF (I' 79) g) k).2) => ⟨fun (c5 : _ ≤ _) => absurd c5 c4, fun (c5 : ¬ _ ≤ _) => hV _ _ _ _ _ _ _ (fin _ e (Int32.not_le.mp c4))⟩⟩)
theorem c_covers {n : Nat} {g w : Int32} (hn : I 79 0 = nI n) (hn10 : n ≤ 10) (hk : K (some (.int (gs_covers (I 79) g w))) I (sx_run rw m ln)) : sx_C 158 (d + 4) [.ref 78, .int g, .int w] I (sx_run rw m ln) K := by
  refine sx_enter (by decide +kernel) (Nat.le_of_ble_eq_true rfl) (sx_go m158 60 rfl (fun VV CC hV hC => ?_))
  unfold gs_covers at hk
  refine hC _ _ _ _ _ (c_isGuard8 ⟨fun (c1 : gs_in g 0 (I 79 0 - nI 1) = 0) => ?_, fun (c1 : ¬ gs_in g 0 (I 79 0 - nI 1) = 0) => hC _ _ _ _ _ (c_isIn rfl (by decide +kernel) (by decide +kernel) ⟨fun (c2 : ¬ gs_in w 0 (nI 1) = 0) => hV _ _ _ _ _ _ _ ?_, fun (c2 : gs_in w 0 (nI 1) = 0) => ?_⟩)⟩)
  · rw [if_pos (Or.inl c1)] at hk; exact hk
  · rw [if_neg (fun h => h.elim c1 c2)] at hk
    exact v_covers (d := d) hn hn10 hk 20 0 I (by omega) rfl
  · rw [if_pos (Or.inr c2)] at hk; exact hk
end
