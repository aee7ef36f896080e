/-! ===== the reference: where a night has a raid ===== -/
def gs_ke (s s' : Nat → Int32) : Prop := ∀ i, i < 11 → i ≠ 7 → s' i = s i
theorem gs_ke.rf (s : Nat → Int32) : gs_ke s s := fun _ _ _ => rfl
theorem gs_ke.tr {a b c : Nat → Int32} (h : gs_ke a b) (h2 : gs_ke b c) : gs_ke a c := fun i h3 h4 => (h2 i h3 h4).trans (h i h3 h4)
theorem gs_ke.up (s : Nat → Int32) (k : Nat) (v : Int32) (h : 11 ≤ k ∨ k = 7) : gs_ke s (upd s k v) := fun i h1 h2 => pk_un (by omega)
theorem gs_ke.set (s : Nat → Int32) (k w : Nat) (v : Int32) : gs_ke s (gs_set s k w v) := gs_ke.up s _ v (by omega)
theorem gs_ke.it {body : Nat → (Nat → Int32) → Nat → Int32} (h : ∀ k s, gs_ke s (body k s)) (s : Nat → Int32) : ∀ n, gs_ke s (gs_it body n s)
  | 0 => gs_ke.rf s
  | n + 1 => (gs_ke.it h s n).tr (h n _)
theorem gs_ke.blow1 (w : Int32) (k : Nat) (s : Nat → Int32) : gs_ke s (gs_blow1 w k s) := by
  unfold gs_blow1
  split
  · exact (gs_ke.set s k 4 _).tr (gs_ke.up _ 7 _ (by omega))
  · exact gs_ke.rf s
theorem gs_ke.rise1 (n k : Nat) (s : Nat → Int32) : gs_ke s (gs_rise1 n k s) := by
  unfold gs_rise1
  split
  · unfold gs_rises
    split
    · exact gs_ke.set s _ 4 _
    · exact gs_ke.rf s
  · exact gs_ke.rf s
theorem gs_ke.watch1 (p : Int32) (k : Nat) (s : Nat → Int32) : gs_ke s (gs_watch1 p k s) := by
  unfold gs_watch1
  split
  · exact gs_ke.rf s
  · exact gs_ke.set s k 3 _
theorem gs_ke.rain (s : Nat → Int32) : gs_ke s (gs_rain s) := by
  unfold gs_rain
  split
  · exact (gs_ke.up s 11 _ (by omega)).tr (gs_ke.it (fun k s => gs_ke.set s k 2 _) _ _)
  · exact gs_ke.up s 11 _ (by omega)
theorem gs_ke.step4 (s : Nat → Int32) : gs_ke s (gs_step4 s) := by
  have a : gs_ke s (gs_blows s) := (gs_ke.up s 11 _ (by omega)).tr (gs_ke.it (fun k s => gs_ke.blow1 _ k s) _ _)
  have b : gs_ke s (gs_it (gs_rise1 (gs_N s)) (gs_N s) (gs_blows s)) := a.tr (gs_ke.it (fun k s => gs_ke.rise1 _ k s) _ _)
  have c : gs_ke s (gs_watches (gs_it (gs_rise1 (gs_N s)) (gs_N s) (gs_blows s))) := b.tr ((gs_ke.up _ 11 _ (by omega)).tr (gs_ke.it (fun k s => gs_ke.watch1 _ k s) _ _))
  exact c.tr (gs_ke.rain _)
def gs_rd (s : Nat → Int32) : Bool := decide (gs_cnt (gs_step4 s) < gs_step4 s 5)
theorem gs_raids_night (s : Nat → Int32) : gs_raids (gs_night s) = gs_raids s + nI (gs_rd s).toNat := by
  unfold gs_raids gs_night
  rw [pk_un (by omega), pk_un (by omega)]
  have h8 := gs_ke.step4 s 8 (by omega) (by omega)
  have h9 := gs_ke.step4 s 9 (by omega) (by omega)
  by_cases h : gs_cnt (gs_step4 s) < gs_step4 s 5
  · have e : gs_rd s = true := decide_eq_true h
    rw [e]
    by_cases h2 : gs_str (gs_step4 s) < gs_step4 s 6
    · rw [gs_raid1 h h2, pk_us, pk_un (by omega), h8, h9]
      exact (Int32.add_assoc _ _ _).symm
    · rw [gs_raid2 h h2, pk_us, pk_un (by omega), h8, h9, Int32.add_assoc, Int32.add_comm (nI 1), ← Int32.add_assoc]
      rfl
  · have e : gs_rd s = false := decide_eq_false h
    rw [e, gs_raid0 h, h8, h9]
    exact (Int32.add_zero _).symm
/-- how many of the next k nights have a raid -/
def gs_rc (s : Nat → Int32) : Nat → Nat
  | 0 => 0
  | k + 1 => gs_rc s k + (gs_rd (gs_many k s)).toNat
theorem gs_rc_le (s : Nat → Int32) : ∀ k, gs_rc s k ≤ k
  | 0 => Nat.le_refl 0
  | k + 1 => by
    have := gs_rc_le s k
    have h : (gs_rd (gs_many k s)).toNat ≤ 1 := by cases gs_rd (gs_many k s) <;> decide
    unfold gs_rc
    omega
theorem gs_raids_many (s : Nat → Int32) : ∀ k, gs_raids (gs_many k s) = gs_raids s + nI (gs_rc s k)
  | 0 => (Int32.add_zero _).symm
  | k + 1 => by
    show gs_raids (gs_night (gs_many k s)) = _
    rw [gs_raids_night, gs_raids_many s k, Int32.add_assoc, nI_add]
    rfl
theorem gs_rc_0 (s : Nat → Int32) : ∀ k, gs_rc s k = 0 ↔ ∀ i, i < k → gs_rd (gs_many i s) = false
  | 0 => ⟨fun _ i h => absurd h (Nat.not_lt_zero i), fun _ => rfl⟩
  | k + 1 => by
    unfold gs_rc
    constructor
    · intro h i hi
      have h1 : gs_rc s k = 0 := by omega
      have h2 : (gs_rd (gs_many k s)).toNat = 0 := by omega
      rcases Nat.lt_or_ge i k with q | q
      · exact (gs_rc_0 s k).mp h1 i q
      · have : i = k := by omega
        subst this
        cases e : gs_rd (gs_many i s) with
        | false => rfl
        | true => rw [e] at h2; exact absurd h2 (by decide)
    · intro h
      rw [(gs_rc_0 s k).mpr (fun i hi => h i (by omega)), h k (by omega)]
      rfl
/-- few raids so far -/
def gs_rf (s : Nat → Int32) : Prop := ∃ r, gs_raids s = nI r ∧ r < 2 ^ 30
theorem gs_raids_eq {s : Nat → Int32} (h : gs_rf s) {k : Nat} (hk : k < 2 ^ 30) : gs_raids (gs_many k s) = gs_raids s ↔ gs_rc s k = 0 := by
  obtain ⟨r, h1, h2⟩ := h
  have := gs_rc_le s k
  rw [gs_raids_many, h1, nI_add, nI_eq (by omega) (by omega)]
  omega
theorem gs_raids_gt {s : Nat → Int32} (h : gs_rf s) {k : Nat} (hk : k < 2 ^ 30) : gs_raids (gs_many k s) ≤ gs_raids s ↔ gs_rc s k = 0 := by
  obtain ⟨r, h1, h2⟩ := h
  have := gs_rc_le s k
  rw [gs_raids_many, h1, nI_add, nI_leI (by omega) (by omega)]
  omega
def gs_bluff (s : Nat → Int32) : Int32 := if gs_fst (fun i => gs_rd (gs_many i s)) 200 < 200 then nI (gs_fst (fun i => gs_rd (gs_many i s)) 200 + 1) else -1000000005
theorem sx_upat {I : sx_I} {a : Nat} {f : Nat → Int32} (h : I a = f) : sx_up I a f = I := by rw [← h, sx_upself]
section
variable {d m : Nat} {I : sx_I} {rw : Nat → Nat → Option Nat} {ln : Nat → Nat} {K : sx_K}
/-- the end of bluff: at k, k is 200 or there has been a raid -/
theorem v_bluffX {k : Nat} (hk2 : k ≤ 200) (hn : ∃ n, I 79 0 = nI n ∧ n ≤ 10) (hr : gs_rf (I 79)) (hend : k = 200 ∨ ¬ gs_rc (I 79) k = 0) (hk : ∀ I', gs_sd I I' → K (some (.int (if gs_rc (I 79) k = 0 then -1000000005 else nI k))) I' (sx_run rw m ln)) (I' I1 : sx_I) (hh : gs_hold I I1) (hsc : gs_sc (sx_up I1 79 (gs_many k (I 79))) I') :
    sx_V 163 (d + 8) 0 0 K 11 [(0, .ref 78), (1, .int (gs_raids (I 79))), (2, .int (nI k))] [] I' (sx_run rw m ln) := by
  obtain ⟨n, hn, hn10⟩ := hn
  have e79 := hsc.at
  have hl := gs_lo.many hn hn10 k
  have hb := (hh.back hsc hl).1
  refine sx_go m163 100 rfl (fun VV CC hV hC => ?_)
  have tail : ∀ I3, gs_sd I I3 → (¬ (gs_raids (gs_many k (I 79)) ≤ gs_raids (I 79)) → K (some (.int (nI k))) I3 (sx_run rw m ln)) ∧ (gs_raids (gs_many k (I 79)) ≤ gs_raids (I 79) → K (some (.int (-1000000005))) I3 (sx_run rw m ln)) := by
    intro I3 h3
    have := hk I3 h3
    constructor
    · intro h
      rw [gs_raids_gt hr (by omega)] at h
      rw [if_neg h] at this
      exact this
    · intro h
      rw [gs_raids_gt hr (by omega)] at h
      rw [if_pos h] at this
      exact this
  have fin : ∀ (v : Int32), v = gs_raids (gs_many k (I 79)) → (v ≤ gs_raids (I 79) → K (some (.int (-1000000005))) (sx_up I' 79 (gs_62 (I' 79) (I' 90) 62)) (sx_run rw m ln)) ∧ (¬ v ≤ gs_raids (I 79) → K (some (.int (nI k))) (sx_up I' 79 (gs_62 (I' 79) (I' 90) 62)) (sx_run rw m ln)) := by
    intro v hv
    subst hv
    exact ⟨(tail _ hb).2, (tail _ hb).1⟩
  refine ⟨fun (c1 : nI 200 ≤ nI k) => ?_, fun (c1 : ¬ nI 200 ≤ nI k) => hC _ _ _ _ _ (c_raids ⟨fun (c2 : ¬ gs_raids (I' 79) = gs_raids (I 79)) => ?_, fun (c2 : gs_raids (I' 79) = gs_raids (I 79)) => ?_⟩)⟩
  · refine hC _ _ _ _ _ (c_raids ⟨fun (c3 : gs_raids (I' 79) ≤ gs_raids (I 79)) => hC _ _ _ _ _ (c_laysBack ⟨fun _ => (fin _ (by rw [e79])).1 c3, fun (c4 : ¬ nI 0 = 0) => absurd rfl c4⟩), fun (c3 : ¬ gs_raids (I' 79) ≤ gs_raids (I 79)) => hC _ _ _ _ _ (c_laysBack ⟨fun (c4 : nI 1 = 0) => absurd c4 (by decide +kernel), fun _ => (fin _ (by rw [e79])).2 c3⟩)⟩)
  · refine hC _ _ _ _ _ (c_raids ⟨fun (c3 : gs_raids (I' 79) ≤ gs_raids (I 79)) => hC _ _ _ _ _ (c_laysBack ⟨fun _ => (fin _ (by rw [e79])).1 c3, fun (c4 : ¬ nI 0 = 0) => absurd rfl c4⟩), fun (c3 : ¬ gs_raids (I' 79) ≤ gs_raids (I 79)) => hC _ _ _ _ _ (c_laysBack ⟨fun (c4 : nI 1 = 0) => absurd c4 (by decide +kernel), fun _ => (fin _ (by rw [e79])).2 c3⟩)⟩)
  · exfalso
    rw [e79, gs_raids_eq hr (by omega)] at c2
    rcases hend with rfl | h
    · exact c1 (nI_le (Nat.le_refl _) (by omega))
    · exact h c2
theorem v_bluff {n : Nat} (hn : I 79 0 = nI n) (hn10 : n ≤ 10) (htx : gs_tx (I 79)) (hr : gs_rf (I 79)) (hk : ∀ I', gs_sd I I' → K (some (.int (gs_bluff (I 79)))) I' (sx_run rw m ln)) (I1 : sx_I) (hh : gs_hold I I1) :
    ∀ (r k : Nat) (I' : sx_I), k + r = 200 → (gs_sc (sx_up I1 79 (gs_many k (I 79))) I' ∧ ∀ i, i < k → gs_rd (gs_many i (I 79)) = false) → sx_V 163 (d + 8) 0 0 K 11 [(0, .ref 78), (1, .int (gs_raids (I 79))), (2, .int (nI k))] [] I' (sx_run rw m ln) := by
  refine sx_for 200 (fun I' h => ?_) (fun k I' hk2 h ih => ?_)
  · refine v_bluffX (Nat.le_refl _) ⟨n, hn, hn10⟩ hr (Or.inl rfl) (fun I2 h2 => sx_kk ?_ (hk I2 h2)) I' I1 hh h.1
    rw [if_pos ((gs_rc_0 _ _).mpr h.2)]
    unfold gs_bluff
    rw [gs_fst_none _ _ h.2, if_neg (Nat.lt_irrefl _)]
  · obtain ⟨hsc, hbef⟩ := h
    have e79 := hsc.at
    have hl := gs_lo.many hn hn10 k
    refine sx_go m163 100 rfl (fun VV CC hV hC => ?_)
    refine ⟨fun (c1 : nI 200 ≤ nI k) => absurd c1 (nI_ge hk2 (by omega)), fun (c1 : ¬ nI 200 ≤ nI k) => hC _ _ _ _ _ (c_raids ⟨fun (c2 : ¬ gs_raids (I' 79) = gs_raids (I 79)) => ?_, fun (c2 : gs_raids (I' 79) = gs_raids (I 79)) => ?_⟩)⟩
    · exfalso
      rw [e79, gs_raids_eq hr (by omega), gs_rc_0] at c2
      exact c2 hbef
    · refine hC _ _ _ _ _ (c_goesOn (by rw [e79]; exact hl.1.trans hn) hn10 (by rw [e79]; exact gs_tx_lo hl htx) (fun I2 h2 => hV _ _ _ _ _ _ _ ?_))
      rw [e79] at h2
      have h3 : gs_sc (sx_up I1 79 (gs_many (k + 1) (I 79))) I2 := (hsc.st _).tr h2
      rw [show nI k + nI 1 = nI (k + 1) from nI_add _ _]
      cases e : gs_rd (gs_many k (I 79)) with
      | false =>
        refine ih I2 ⟨h3, fun i hi => ?_⟩
        rcases Nat.lt_or_ge i k with q | q
        · exact hbef i q
        · have : i = k := by omega
          subst this; exact e
      | true =>
        have hrc : ¬ gs_rc (I 79) (k + 1) = 0 := by
          intro h
          have := (gs_rc_0 _ _).mp h k (by omega)
          rw [e] at this
          exact absurd this (by decide)
        refine v_bluffX (by omega) ⟨n, hn, hn10⟩ hr (Or.inr hrc) (fun I2 h2 => sx_kk ?_ (hk I2 h2)) I2 I1 hh h3
        rw [if_neg hrc]
        unfold gs_bluff
        rw [gs_fst_at _ 200 k hk2 hbef e, if_pos hk2]
theorem c_bluff {n : Nat} (hn : I 79 0 = nI n) (hn10 : n ≤ 10) (htx : gs_tx (I 79)) (hr : gs_rf (I 79)) (hk : ∀ I', gs_sd I I' → K (some (.int (gs_bluff (I 79)))) I' (sx_run rw m ln)) : sx_C 163 (d + 8) [.ref 78] I (sx_run rw m ln) K := by
  refine sx_enter (by decide +kernel) (Nat.le_of_ble_eq_true rfl) (sx_go m163 100 rfl (fun VV CC hV hC => ?_))
  refine hC _ _ _ _ _ (c_laysBy (hC _ _ _ _ _ (c_raids (hV _ _ _ _ _ _ _ ?_))))
  rw [sx_up_ne (a := 90) (i := 79) (by decide)]
  refine v_bluff hn hn10 htx hr hk _ (gs_hold.start I) 200 0 _ (by omega) ⟨?_, fun i hi => absurd hi (Nat.not_lt_zero i)⟩
  have e : sx_up I 90 (gs_62 (I 90) (I 79) 62) 79 = I 79 := sx_up_ne (by decide)
  have := gs_sc.rf (sx_up I 90 (gs_62 (I 90) (I 79) 62))
  have e2 : sx_up (sx_up I 90 (gs_62 (I 90) (I 79) 62)) 79 (gs_many 0 (I 79)) = sx_up I 90 (gs_62 (I 90) (I 79) 62) := by
    exact sx_upat e
  rw [e2]
  exact this
end
