/-! ===== the reference: looks, what is counted, strength ===== -/
theorem gs_counts_key (s : Nat → Int32) (key : Int32) : ∀ (T t : Nat), T ≤ 14 → t < T → gs_counts s key T = nI t → s (62 + 200 * t) = key
  | 0, t, _, h, _ => absurd h (Nat.not_lt_zero t)
  | T + 1, t, hT, ht, he => by
    unfold gs_counts at he
    split at he
    · rename_i q
      have := (nI_eq (show T < 2 ^ 31 by omega) (show t < 2 ^ 31 by omega)).mp he
      subst this
      exact q
    · rcases gs_counts_lt s key T (by omega) with q | ⟨t', q1, q2⟩
      · rw [q] at he
        exfalso
        have h1 : nI t < 0 := by rw [← he]; decide +kernel
        exact nI_pos (by omega) h1
      · have := (nI_eq (show t' < 2 ^ 31 by omega) (show t < 2 ^ 31 by omega)).mp (q2.symm.trans he)
        subst this
        exact gs_counts_key s key T t' (by omega) q1 he
theorem gs_ev_congr {nm nm' : Nat → Int32} {s : Nat → Int32} {t M : Nat} (h : gs_tok s t M) (hn : ∀ c, gs_nmok (s (62 + 200 * t)) c → nm c = nm' c) : ∀ k, k ≤ M → gs_ev nm s t k = gs_ev nm' s t k
  | 0, _ => rfl
  | k + 1, hk => by
    have ih := gs_ev_congr h hn k (by omega)
    obtain ⟨-, h2⟩ := h.2.2.2.2 k (by omega)
    unfold gs_ev gs_op
    rw [ih]
    by_cases c1 : s (66 + 200 * t + 2 * k) = nI 2
    · rw [if_pos c1, if_pos c1]
    · rw [if_neg c1, if_neg c1]
      by_cases c2 : s (66 + 200 * t + 2 * k) = 0
      · rw [if_pos c2, if_pos c2]
      · rw [if_neg c2, if_neg c2]
        obtain ⟨c, hc, hc2, hc3⟩ := h2 c1 c2
        rw [hc, nI_clamp (by omega), hn c hc3]
theorem gs_work_congr {nm nm' : Nat → Int32} {s : Nat → Int32} {t M : Nat} (h : gs_tok s t M) (hn : ∀ c, gs_nmok (s (62 + 200 * t)) c → nm c = nm' c) : gs_work nm s t = gs_work nm' s t := by
  unfold gs_work
  rw [h.2.1, nI_clamp (by have := h.2.2.1; omega), gs_ev_congr h hn M (Nat.le_refl _)]
def gs_looks (s : Nat → Int32) (g : Nat) : Int32 := gs_lk (s (12 + 5 * g + 0)) (gs_plain s g) (s 2)
def gs_sum (f : Nat → Int32) : Nat → Int32
  | 0 => 0
  | k + 1 => gs_sum f k + f k
def gs_cntF (s : Nat → Int32) (k : Nat) : Int32 := if s (12 + 5 * k + 4) = nI 1 ∧ s (12 + 5 * k + 3) < nI 50 then gs_looks s k else 0
def gs_strF (s : Nat → Int32) (k : Nat) : Int32 := if s (12 + 5 * k + 4) = nI 1 then gs_fights (s (12 + 5 * k + 0)) else 0
def gs_cnt (s : Nat → Int32) : Int32 := gs_sum (gs_cntF s) (s 0).toNatClampNeg
def gs_str (s : Nat → Int32) : Int32 := gs_sum (gs_strF s) (s 0).toNatClampNeg
section
variable {d m : Nat} {I : sx_I} {rw : Nat → Nat → Option Nat} {ln : Nat → Nat} {K : sx_K}
theorem gs_lt0 (c : Prop) (n : Nat) (h : n < 2 ^ 31) : ¬ nI n < 0 := nI_pos h
theorem c_plain {x : Int32} {g : Nat} (hx : x = nI g) (hg : g < 10) (htx : gs_tx (I 79)) (hk : ∀ I', gs_sc I I' → K (some (.int (gs_plain (I 79) g))) I' (sx_run rw m ln)) : sx_C 129 (d + 4) [.ref 78, .int x] I (sx_run rw m ln) K := by
  obtain ⟨T, hT, hT14, hok⟩ := htx
  refine sx_enter (by decide +kernel) (Nat.le_of_ble_eq_true rfl) (sx_go m129 60 rfl (fun VV CC hV hC => ?_))
  refine hC _ _ _ _ _ (c_counts hT hT14 ⟨fun c1 => ?_, fun c1 => ?_⟩)
  · rcases gs_counts_lt (I 79) (nI 0) T hT14 with q | ⟨t, ht, q⟩
    · rw [q] at c1; exact absurd (show (0 : Int32) ≤ -1 from c1) (by decide +kernel)
    · obtain ⟨M, hM⟩ := hok t ht
      have hkey := gs_counts_key (I 79) (nI 0) T t hT14 ht q
      refine hC _ _ _ _ _ (c_of hx rfl (by omega) ⟨119, ⟨rfl, by omega⟩, ?_⟩)
      refine hC _ _ _ _ _ (c_of hx rfl (by omega) ⟨100, ⟨rfl, by omega⟩, ?_⟩)
      refine hC _ _ _ _ _ (c_of hx rfl (by omega) ⟨112, ⟨rfl, by omega⟩, ?_⟩)
      rw [sx_up_same, sx_upup, sx_up_same, sx_upup, q]
      have e79 : ∀ f, (sx_up I 92 f) 79 = I 79 := fun f => sx_up_ne (by omega)
      refine hC _ _ _ _ _ (c_worked rfl (M := M) (by rw [e79]; exact hM) (fun f => ?_))
      refine hC _ _ _ _ _ (c_within (sx_kk ?_ (hk _ ?_)))
      · simp only [sx_upup, e79, sx_up_same]
        unfold gs_plain
        rw [hT, nI_clamp (by omega)]
        have h0 : (nI 0 : Int32) = 0 := rfl
        rw [h0] at q hkey
        rw [q, if_neg (nI_pos (by omega)), nI_clamp (by omega)]
        congr 1
        refine gs_work_congr hM (fun c hc => ?_)
        rcases hc with ⟨-, rfl | rfl | rfl⟩ | ⟨e, -⟩ | ⟨e, -⟩
        · rfl
        · rfl
        · rfl
        · rw [hkey] at e; exact absurd e (by decide +kernel)
        · rw [hkey] at e; exact absurd e (by decide +kernel)
      · intro a h1 h2
        rw [sx_up_ne h2, sx_up_ne h1]
  · rcases gs_counts_lt (I 79) (nI 0) T hT14 with q | ⟨t, ht, q⟩
    · refine hC _ _ _ _ _ (c_of hx rfl (by omega) ⟨by decide +kernel, sx_kk ?_ (hk _ (gs_sc.rf I))⟩)
      unfold gs_plain
      rw [hT, nI_clamp (by omega)]
      have h0 : (nI 0 : Int32) = 0 := rfl
      rw [h0] at q
      rw [q, if_pos (by decide +kernel)]
    · exfalso
      rw [q] at c1
      exact c1 (nI_pos' (by omega))
theorem c_looks {x : Int32} {g : Nat} (hx : x = nI g) (hg : g < 10) (htx : gs_tx (I 79)) (hk : ∀ I', gs_sc I I' → K (some (.int (gs_looks (I 79) g))) I' (sx_run rw m ln)) : sx_C 130 (d + 5) [.ref 78, .int x] I (sx_run rw m ln) K := by
  refine sx_enter (by decide +kernel) (Nat.le_of_ble_eq_true rfl) (sx_go m130 60 rfl (fun VV CC hV hC => ?_))
  refine hC _ _ _ _ _ (c_of hx rfl (by omega) ?_)
  unfold gs_looks gs_lk at hk
  refine ⟨fun c1 => ?_, fun c1 => ⟨fun c2 => ?_, fun c2 => ⟨fun c3 => ?_, fun c3 => ⟨fun c4 => ?_, fun c4 => ⟨fun c5 => ?_, fun c5 => ?_⟩⟩⟩⟩⟩
  · refine hC _ _ _ _ _ (c_plain hx hg htx (fun I' hI' => ?_))
    have := hk I' hI'; rw [if_pos c1] at this; exact this
  · have := hk I (gs_sc.rf I); rw [if_neg c1, if_pos c2] at this; exact this
  · refine hC _ _ _ _ _ (c_plain hx hg htx (fun I' hI' => ?_))
    have := hk I' hI'; rw [if_neg c1, if_neg c2, if_pos c3] at this; exact this
  · have := hk I (gs_sc.rf I); rw [if_neg c1, if_neg c2, if_neg c3, if_pos c4] at this; exact this
  · refine hC _ _ _ _ _ (c_plain hx hg htx (fun I' hI' => ?_))
    have := hk I' hI'; rw [if_neg c1, if_neg c2, if_neg c3, if_neg c4, if_pos c5, ← hI' 79 (by omega) (by omega)] at this
    refine ⟨2, ⟨rfl, by omega⟩, by decide +kernel, ?_⟩
    rw [← hI' 79 (by omega) (by omega)]
    exact this
  · refine hC _ _ _ _ _ (c_plain hx hg htx (fun I' hI' => ?_))
    have := hk I' hI'; rw [if_neg c1, if_neg c2, if_neg c3, if_neg c4, if_neg c5] at this; exact this
theorem v_counted {n : Nat} {s : Nat → Int32} (hs : I 79 = s) (hn : s 0 = nI n) (hn10 : n ≤ 10) (htx : gs_tx s) (hk : ∀ I', gs_sc I I' → K (some (.int (gs_sum (gs_cntF s) n))) I' (sx_run rw m ln)) :
    ∀ (r k : Nat) (I' : sx_I), k + r = n → gs_sc I I' → sx_V 144 (d + 6) 0 0 K 4 [(0, .ref 78), (1, .int (gs_sum (gs_cntF s) k)), (2, .int (nI k))] [] I' (sx_run rw m ln) := by
  intro r
  induction r with
  | zero =>
    intro k I' hk2 hsc
    have : k = n := by omega
    subst this
    have e79 : I' 79 = s := (hsc 79 (by omega) (by omega)).trans hs
    refine sx_go m144 60 rfl (fun VV CC hV hC => ?_)
    refine ⟨0, ⟨rfl, by omega⟩, fun c1 => hk I' hsc, fun c1 => ?_⟩
    exfalso; rw [e79, hn] at c1; exact c1 (nI_le (Nat.le_refl _) (by omega))
  | succ r ih =>
    intro k I' hk2 hsc
    have e79 : I' 79 = s := (hsc 79 (by omega) (by omega)).trans hs
    have nxt : ∀ (I2 : sx_I) (v : Int32), gs_sc I I2 → v = gs_sum (gs_cntF s) k + gs_cntF s k → sx_V 144 (d + 6) 0 0 K 4 [(0, .ref 78), (1, .int v), (2, .int (nI k + nI 1))] [] I2 (sx_run rw m ln) := by
      intro I2 v h1 h2
      have := ih (k + 1) I2 (by omega) h1
      rw [nI_succ] at this
      rw [h2]
      exact this
    refine sx_go m144 60 rfl (fun VV CC hV hC => ?_)
    refine ⟨0, ⟨rfl, by omega⟩, fun c1 => ?_, fun c1 => ?_⟩
    · exfalso; rw [e79, hn] at c1; exact nI_ge (show k < n by omega) (by omega) c1
    · refine hC _ _ _ _ _ (c_of rfl rfl (by omega) ⟨fun (c2 : ¬ _ = _) => hV _ _ _ _ _ _ _ (nxt _ _ hsc ?_), fun (c2 : _ = _) => hC _ _ _ _ _ (c_of rfl rfl (by omega) ⟨fun c3 => hV _ _ _ _ _ _ _ (nxt _ _ hsc ?_), fun c3 => ?_⟩)⟩)
      · rw [e79] at c2
        unfold gs_cntF; rw [if_neg (fun h => c2 h.1)]; rfl
      · rw [e79] at c3
        unfold gs_cntF; rw [if_neg (fun h => absurd h.2 (Int32.not_lt.mpr c3))]; rfl
      · refine hC _ _ _ _ _ (c_looks rfl (by omega) (by rw [e79]; exact htx) (fun I2 h2 => hV _ _ _ _ _ _ _ (nxt _ _ (hsc.tr h2) ?_)))
        rw [e79] at c2 c3 ⊢
        unfold gs_cntF; rw [if_pos ⟨c2, Int32.not_le.mp c3⟩]
theorem c_counted8 {n : Nat} (hn : I 79 0 = nI n) (hn10 : n ≤ 10) (htx : gs_tx (I 79)) (hk : ∀ I', gs_sc I I' → K (some (.int (gs_cnt (I 79)))) I' (sx_run rw m ln)) : sx_C 144 (d + 6) [.ref 78] I (sx_run rw m ln) K := by
  refine sx_enter (by decide +kernel) (Nat.le_of_ble_eq_true rfl) (sx_go m144 60 rfl (fun VV CC hV hC => hV _ _ _ _ _ _ _ ?_))
  unfold gs_cnt at hk
  rw [hn, nI_clamp (by omega)] at hk
  exact v_counted (d := d) rfl hn hn10 htx hk n 0 I (by omega) (gs_sc.rf I)
theorem v_strength {n : Nat} (hn : I 79 0 = nI n) (hn10 : n ≤ 10) (hk : K (some (.int (gs_sum (gs_strF (I 79)) n))) I (sx_run rw m ln)) :
    ∀ (r k : Nat), k + r = n → sx_V 145 (d + 3) 0 0 K 4 [(0, .ref 78), (1, .int (gs_sum (gs_strF (I 79)) k)), (2, .int (nI k))] [] I (sx_run rw m ln) := by
  intro r
  induction r with
  | zero =>
    intro k hk2
    have : k = n := by omega
    subst this
    refine sx_go m145 60 rfl (fun VV CC hV hC => ?_)
    refine ⟨0, ⟨rfl, by omega⟩, fun c1 => hk, fun c1 => ?_⟩
    exfalso; rw [hn] at c1; exact c1 (nI_le (Nat.le_refl _) (by omega))
  | succ r ih =>
    intro k hk2
    have nxt : ∀ (v : Int32), v = gs_sum (gs_strF (I 79)) k + gs_strF (I 79) k → sx_V 145 (d + 3) 0 0 K 4 [(0, .ref 78), (1, .int v), (2, .int (nI k + nI 1))] [] I (sx_run rw m ln) := by
      intro v h2
      have := ih (k + 1) (by omega)
      rw [nI_succ] at this
      rw [h2]
      exact this
    refine sx_go m145 60 rfl (fun VV CC hV hC => ?_)
    refine ⟨0, ⟨rfl, by omega⟩, fun c1 => ?_, fun c1 => ?_⟩
    · exfalso; rw [hn] at c1; exact nI_ge (show k < n by omega) (by omega) c1
    · refine hC _ _ _ _ _ (c_of rfl rfl (by omega) ⟨fun (c2 : ¬ _ = _) => hV _ _ _ _ _ _ _ (nxt _ ?_), fun (c2 : _ = _) => hC _ _ _ _ _ (c_fights8 rfl (by omega) (hV _ _ _ _ _ _ _ (nxt _ ?_)))⟩)
      · unfold gs_strF; rw [if_neg c2]; rfl
      · unfold gs_strF; rw [if_pos c2]
theorem c_strength8 {n : Nat} (hn : I 79 0 = nI n) (hn10 : n ≤ 10) (hk : K (some (.int (gs_str (I 79)))) I (sx_run rw m ln)) : sx_C 145 (d + 3) [.ref 78] I (sx_run rw m ln) K := by
  refine sx_enter (by decide +kernel) (Nat.le_of_ble_eq_true rfl) (sx_go m145 60 rfl (fun VV CC hV hC => hV _ _ _ _ _ _ _ ?_))
  unfold gs_str at hk
  rw [hn, nI_clamp (by omega)] at hk
  exact v_strength (d := d) hn hn10 hk n 0 (by omega)
end
