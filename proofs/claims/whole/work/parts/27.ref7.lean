/-! ===== the reference: many nights; what is asked of them ===== -/
def gs_many : Nat → (Nat → Int32) → Nat → Int32
  | 0, s => s
  | k + 1, s => gs_night (gs_many k s)
theorem gs_lo.many {s : Nat → Int32} {n : Nat} (h : s 0 = nI n) (hn : n ≤ 10) : ∀ k, gs_lo s (gs_many k s)
  | 0 => gs_lo.rf s
  | k + 1 => (gs_lo.many h hn k).tr (gs_lo.night ((gs_lo.many h hn k).1.trans h) hn)
def gs_raids (s : Nat → Int32) : Int32 := s 8 + s 9
def gs_ors (f : Nat → Int32) : Nat → Int32
  | 0 => 0
  | k + 1 => gs_ors f k ||| f k
def gs_seenF (s : Nat → Int32) (p : Int32) (k : Nat) : Int32 := if gs_off (s (12 + 5 * k + 1)) p ≤ s 3 then nI 1 <<< (nI k &&& 31) else 0
def gs_seen (s : Nat → Int32) (p : Int32) : Int32 := if gs_in p 0 (nI 19) = 0 then -1000000001 else gs_ors (gs_seenF s p) (gs_N s)
def gs_doubts (s : Nat → Int32) : Int32 := gs_sum (fun k => s (12 + 5 * k + 3)) (gs_N s)
def gs_downF (s : Nat → Int32) (k : Nat) : Int32 := if s (12 + 5 * k + 4) = 0 then nI 1 <<< (nI k &&& 31) else 0
def gs_downs (s : Nat → Int32) : Int32 := gs_ors (gs_downF s) (gs_N s)
section
variable {d m : Nat} {I : sx_I} {rw : Nat → Nat → Option Nat} {ln : Nat → Nat} {K : sx_K}
theorem v_many {n c : Nat} {s : Nat → Int32} (hn : s 0 = nI n) (hn10 : n ≤ 10) (hc : c < 2 ^ 31) (htx : gs_tx s) (hk : ∀ I', gs_sc (sx_up I 79 (gs_many c s)) I' → K none I' (sx_run rw m ln)) :
    ∀ (r k : Nat) (I' : sx_I), k + r = c → gs_sc (sx_up I 79 (gs_many k s)) I' → sx_V 150 (d + 8) 0 0 K 2 [(0, .ref 78), (1, .int (nI c)), (2, .int (nI k))] [] I' (sx_run rw m ln) := by
  refine sx_for c (fun I' hsc => ?_) (fun k I' hkc hsc ih => ?_)
  · refine sx_go m150 60 rfl (fun VV CC hV hC => ?_)
    exact ⟨fun c1 => hk I' hsc, fun c1 => absurd (nI_le (Nat.le_refl c) hc) c1⟩
  · refine sx_go m150 60 rfl (fun VV CC hV hC => ?_)
    refine ⟨fun c1 => absurd c1 (nI_ge hkc hc), fun c1 => ?_⟩
    have e79 := hsc.at
    have h1 := gs_lo.many hn hn10 k
    refine hC _ _ _ _ _ (c_goesOn (by rw [e79]; exact h1.1.trans hn) hn10 (by rw [e79]; exact gs_tx_lo h1 htx) (fun I2 h2 => hV _ _ _ _ _ _ _ ?_))
    have := ih I2 (by rw [e79] at h2; exact (hsc.st _).tr h2)
    rw [nI_succ] at this
    exact this
theorem c_many {n c : Nat} {x : Int32} (hx : x = nI c) (hc : c < 2 ^ 31) (hn : I 79 0 = nI n) (hn10 : n ≤ 10) (htx : gs_tx (I 79)) (hk : ∀ I', gs_sc (sx_up I 79 (gs_many c (I 79))) I' → K none I' (sx_run rw m ln)) : sx_C 150 (d + 8) [.ref 78, .int x] I (sx_run rw m ln) K := by
  subst hx
  refine sx_enter (by decide +kernel) (Nat.le_of_ble_eq_true rfl) (sx_go m150 60 rfl (fun VV CC hV hC => hV _ _ _ _ _ _ _ ?_))
  refine v_many (d := d) (I := I) hn hn10 hc htx hk c 0 I (by omega) ?_
  show gs_sc (sx_up I 79 (I 79)) I
  rw [sx_upself]
  exact gs_sc.rf I
theorem c_raids (hk : K (some (.int (gs_raids (I 79)))) I (sx_run rw m ln)) : sx_C 151 (d + 1) [.ref 78] I (sx_run rw m ln) K := by
  refine sx_enter (by decide +kernel) (Nat.le_of_ble_eq_true rfl) (sx_go m151 60 rfl (fun VV CC hV hC => ?_))
  exact ⟨8, ⟨rfl, by omega⟩, 9, ⟨rfl, by omega⟩, hk⟩
theorem v_seen {n : Nat} {p : Int32} (hn : I 79 0 = nI n) (hn10 : n ≤ 10) (hk : K (some (.int (gs_ors (gs_seenF (I 79) p) n))) I (sx_run rw m ln)) :
    ∀ (r k : Nat) (I' : sx_I), k + r = n → I' = I → sx_V 152 (d + 2) 0 0 K 14 [(0, .ref 78), (1, .int p), (2, .int (gs_ors (gs_seenF (I 79) p) k)), (3, .int (nI k))] [] I' (sx_run rw m ln) := by
  refine sx_for n (fun I' hsc => ?_) (fun k I' hkc hsc ih => ?_)
  · subst hsc
    refine sx_go m152 60 rfl (fun VV CC hV hC => ?_)
    refine ⟨0, ⟨rfl, by omega⟩, fun c1 => hk, fun c1 => ?_⟩
    exfalso; rw [hn] at c1; exact c1 (nI_le (Nat.le_refl _) (by omega))
  · subst hsc
    have nxt : ∀ v, v = gs_seenF (I' 79) p k → sx_V 152 (d + 2) 0 0 K 14 [(0, .ref 78), (1, .int p), (2, .int (gs_ors (gs_seenF (I' 79) p) k ||| v)), (3, .int (nI k + nI 1))] [] I' (sx_run rw m ln) := by
      intro v hv
      have := ih I' rfl
      rw [nI_succ] at this
      rw [hv]
      exact this
    refine sx_go m152 60 rfl (fun VV CC hV hC => ?_)
    refine ⟨0, ⟨rfl, by omega⟩, fun c1 => ?_, fun c1 => ?_⟩
    · exfalso; rw [hn] at c1; exact nI_ge hkc (by omega) c1
    · refine hC _ _ _ _ _ (c_of rfl rfl (by omega) (hC _ _ _ _ _ (c_off ⟨3, ⟨rfl, by omega⟩, fun c2 => hV _ _ _ _ _ _ _ (nxt _ ?_), fun c2 => hV _ _ _ _ _ _ _ (nxt _ ?_)⟩)))
      · exact (if_neg (Int32.not_le.mpr c2)).symm
      · exact (if_pos (Int32.not_lt.mp c2)).symm
theorem c_seen {n : Nat} {p : Int32} (hn : I 79 0 = nI n) (hn10 : n ≤ 10) (hk : K (some (.int (gs_seen (I 79) p))) I (sx_run rw m ln)) : sx_C 152 (d + 3) [.ref 78, .int p] I (sx_run rw m ln) K := by
  refine sx_enter (by decide +kernel) (Nat.le_of_ble_eq_true rfl) (sx_go m152 60 rfl (fun VV CC hV hC => ?_))
  unfold gs_seen at hk
  rw [gs_N_eq hn hn10] at hk
  refine hC _ _ _ _ _ (c_isPost8 ⟨fun (c1 : ¬ _ = _) => hV _ _ _ _ _ _ _ ?_, fun (c1 : _ = _) => sx_kk (if_pos c1).symm hk⟩)
  rw [if_neg c1] at hk
  exact v_seen (d := d + 1) hn hn10 hk n 0 I (by omega) rfl
theorem v_doubts {n : Nat} (hn : I 79 0 = nI n) (hn10 : n ≤ 10) (hk : K (some (.int (gs_sum (fun k => I 79 (12 + 5 * k + 3)) n))) I (sx_run rw m ln)) :
    ∀ (r k : Nat) (I' : sx_I), k + r = n → I' = I → sx_V 154 (d + 2) 0 0 K 4 [(0, .ref 78), (1, .int (gs_sum (fun k => I 79 (12 + 5 * k + 3)) k)), (2, .int (nI k))] [] I' (sx_run rw m ln) := by
  refine sx_for n (fun I' hsc => ?_) (fun k I' hkc hsc ih => ?_)
  · subst hsc
    refine sx_go m154 60 rfl (fun VV CC hV hC => ?_)
    refine ⟨0, ⟨rfl, by omega⟩, fun c1 => hk, fun c1 => ?_⟩
    exfalso; rw [hn] at c1; exact c1 (nI_le (Nat.le_refl _) (by omega))
  · subst hsc
    refine sx_go m154 60 rfl (fun VV CC hV hC => ?_)
    refine ⟨0, ⟨rfl, by omega⟩, fun c1 => ?_, fun c1 => ?_⟩
    · exfalso; rw [hn] at c1; exact nI_ge hkc (by omega) c1
    · refine hC _ _ _ _ _ (c_of rfl rfl (by omega) (hV _ _ _ _ _ _ _ ?_))
      have := ih I' rfl
      rw [nI_succ] at this
      exact this
theorem c_doubts {n : Nat} (hn : I 79 0 = nI n) (hn10 : n ≤ 10) (hk : K (some (.int (gs_doubts (I 79)))) I (sx_run rw m ln)) : sx_C 154 (d + 2) [.ref 78] I (sx_run rw m ln) K := by
  refine sx_enter (by decide +kernel) (Nat.le_of_ble_eq_true rfl) (sx_go m154 60 rfl (fun VV CC hV hC => hV _ _ _ _ _ _ _ ?_))
  unfold gs_doubts at hk
  rw [gs_N_eq hn hn10] at hk
  exact v_doubts (d := d) hn hn10 hk n 0 I (by omega) rfl
theorem v_downs {n : Nat} (hn : I 79 0 = nI n) (hn10 : n ≤ 10) (hk : K (some (.int (gs_ors (gs_downF (I 79)) n))) I (sx_run rw m ln)) :
    ∀ (r k : Nat) (I' : sx_I), k + r = n → I' = I → sx_V 155 (d + 2) 0 0 K 4 [(0, .ref 78), (1, .int (gs_ors (gs_downF (I 79)) k)), (2, .int (nI k))] [] I' (sx_run rw m ln) := by
  refine sx_for n (fun I' hsc => ?_) (fun k I' hkc hsc ih => ?_)
  · subst hsc
    refine sx_go m155 60 rfl (fun VV CC hV hC => ?_)
    refine ⟨0, ⟨rfl, by omega⟩, fun c1 => hk, fun c1 => ?_⟩
    exfalso; rw [hn] at c1; exact c1 (nI_le (Nat.le_refl _) (by omega))
  · subst hsc
    have nxt : ∀ v, v = gs_downF (I' 79) k → sx_V 155 (d + 2) 0 0 K 4 [(0, .ref 78), (1, .int (gs_ors (gs_downF (I' 79)) k ||| v)), (2, .int (nI k + nI 1))] [] I' (sx_run rw m ln) := by
      intro v hv
      have := ih I' rfl
      rw [nI_succ] at this
      rw [hv]
      exact this
    refine sx_go m155 60 rfl (fun VV CC hV hC => ?_)
    refine ⟨0, ⟨rfl, by omega⟩, fun c1 => ?_, fun c1 => ?_⟩
    · exfalso; rw [hn] at c1; exact nI_ge hkc (by omega) c1
    · refine hC _ _ _ _ _ (c_of rfl rfl (by omega) ⟨fun (c2 : ¬ _ = _) => hV _ _ _ _ _ _ _ (nxt _ (if_neg c2).symm), fun (c2 : _ = _) => hV _ _ _ _ _ _ _ (nxt _ (if_pos c2).symm)⟩)
theorem c_downs {n : Nat} (hn : I 79 0 = nI n) (hn10 : n ≤ 10) (hk : K (some (.int (gs_downs (I 79)))) I (sx_run rw m ln)) : sx_C 155 (d + 2) [.ref 78] I (sx_run rw m ln) K := by
  refine sx_enter (by decide +kernel) (Nat.le_of_ble_eq_true rfl) (sx_go m155 60 rfl (fun VV CC hV hC => hV _ _ _ _ _ _ _ ?_))
  unfold gs_downs at hk
  rw [gs_N_eq hn hn10] at hk
  exact v_downs (d := d) hn hn10 hk n 0 I (by omega) rfl
end
