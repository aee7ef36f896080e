/-! ===== the class: a border's cells against the reference's row ===== -/
def gb (b : Nat) (s : Nat → Int32) (I : sx_I) : Prop :=
  (I b 1 = s 0 ∧ I b 9 = s 2 ∧ I b 10 = s 11 ∧ I (b + 100) 1 = s 1) ∧ (∀ w, w < 5 → ∀ k, k < 10 → I (b + 1 + w) k = s (12 + 5 * k + w)) ∧ (∀ w, w < 4 → I (b + 6) w = s (3 + w)) ∧ (∀ w, w < 3 → I (b + 7) w = s (7 + w)) ∧
  (∀ w, w < 3 → I (b + 8) w = gs_on (gs_counts s (nI w) (s 1).toNatClampNeg))
def gs_inv (s : Nat → Int32) : Prop := (∃ n, s 0 = nI n ∧ n ≤ 10) ∧ ∀ k, k < 10 → (∃ q, s (12 + 5 * k + 0) = nI q ∧ q < 6) ∧ (∃ p, s (12 + 5 * k + 1) = nI p ∧ p < 20) ∧ (∃ w, s (12 + 5 * k + 2) = nI w ∧ w ≤ 99) ∧ (∃ x, s (12 + 5 * k + 3) = nI x ∧ x ≤ 99) ∧ (s (12 + 5 * k + 4) = 0 ∨ s (12 + 5 * k + 4) = nI 1)
/-- memory is as it was but for a border's cells (its book's number of texts at b + 100) and the texts' stacks -/
def gb_fr (b : Nat) (I I' : sx_I) : Prop := ∀ a, ¬ (200 ≤ a ∧ (a - 200) % 3 = 2) → ((a < b ∨ b + 8 < a) ∧ a ≠ b + 100) → I' a = I a
theorem gb_k.fr {b : Nat} {I I' : sx_I} (h : gb_k I I') : gb_fr b I I' := fun a h1 _ => h a h1
theorem gb_fr.rf (b : Nat) (I : sx_I) : gb_fr b I I := fun _ _ _ => rfl
theorem gb_fr.tr {b : Nat} {I I' I2 : sx_I} (h : gb_fr b I I') (h2 : gb_fr b I' I2) : gb_fr b I I2 := fun a h3 h4 => (h2 a h3 h4).trans (h a h3 h4)
theorem gb_fr.up {b : Nat} (I : sx_I) (a : Nat) (f : Nat → Int32) (h : b ≤ a) (h2 : a ≤ b + 8) : gb_fr b I (sx_up I a f) := fun c _ h4 => sx_up_ne (by omega)
theorem gb_fr.upk {b : Nat} (I : sx_I) (f : Nat → Int32) : gb_fr b I (sx_up I (b + 100) f) := fun c _ h4 => sx_up_ne h4.2
theorem gb_k.gb {b : Nat} {s : Nat → Int32} {I I' : sx_I} (h : gb_k I I') (hb : gb b s I) (hb18 : 18 < b ∧ b < 92) : gb b s I' := by
  obtain ⟨⟨h1, h2, h3, h4⟩, h5, h6, h7, h8⟩ := hb
  refine ⟨⟨by rw [h b (by omega)]; exact h1, by rw [h b (by omega)]; exact h2, by rw [h b (by omega)]; exact h3, by rw [h (b + 100) (by omega)]; exact h4⟩, fun w hw k hk => by rw [h _ (by omega)]; exact h5 w hw k hk, fun w hw => by rw [h _ (by omega)]; exact h6 w hw, fun w hw => by rw [h _ (by omega)]; exact h7 w hw, fun w hw => by rw [h _ (by omega)]; exact h8 w hw⟩
/-- a border elsewhere stays -/
theorem gb_fr.gb {b c : Nat} {s : Nat → Int32} {I I' : sx_I} (h : gb_fr b I I') (hc : gb c s I) (hc18 : 18 < c ∧ c < 92 ∧ 18 < b ∧ b < 92) (hbc : c + 8 < b ∨ b + 8 < c) : gb c s I' := by
  obtain ⟨⟨h1, h2, h3, h4⟩, h5, h6, h7, h8⟩ := hc
  refine ⟨⟨by rw [h c (by omega) (by omega)]; exact h1, by rw [h c (by omega) (by omega)]; exact h2, by rw [h c (by omega) (by omega)]; exact h3, by rw [h (c + 100) (by omega) (by omega)]; exact h4⟩, fun w hw k hk => by rw [h _ (by omega) (by omega)]; exact h5 w hw k hk, fun w hw => by rw [h _ (by omega) (by omega)]; exact h6 w hw, fun w hw => by rw [h _ (by omega) (by omega)]; exact h7 w hw, fun w hw => by rw [h _ (by omega) (by omega)]; exact h8 w hw⟩
theorem gs_counts_cg {s s' : Nat → Int32} (key : Int32) : ∀ T, T ≤ 14 → (∀ t, t < T → s' (62 + 200 * t) = s (62 + 200 * t)) → gs_counts s' key T = gs_counts s key T
  | 0, _, _ => rfl
  | T + 1, hT, h => by
    unfold gs_counts
    rw [h T (by omega), gs_counts_cg key T (by omega) (fun t ht => h t (by omega))]
theorem gb.cnt {s s' : Nat → Int32} (hT : ∃ T, s 1 = nI T ∧ T ≤ 14) (h : s' 1 = s 1) (h2 : ∀ i, 62 ≤ i → i < 2862 → s' i = s i) (w : Nat) : gs_counts s' (nI w) (s' 1).toNatClampNeg = gs_counts s (nI w) (s 1).toNatClampNeg := by
  obtain ⟨T, e, hT⟩ := hT
  rw [h, e, nI_clamp (by omega)]
  exact gs_counts_cg _ T hT (fun t ht => h2 _ (by omega) (by omega))
section
variable {b : Nat} {s : Nat → Int32} {I : sx_I}
/-- the texts' number is small -/
abbrev gs_tn (s : Nat → Int32) : Prop := ∃ T, s 1 = nI T ∧ T ≤ 14
theorem gb.z (h : gb b s I) (v : Int32) (hT : gs_tn s) : gb b (upd s 11 v) (sx_up I b (upd (I b) 10 v)) := by
  obtain ⟨⟨h1, h2, h3, h4⟩, h5, h6, h7, h8⟩ := h
  refine ⟨⟨?_, ?_, ?_, ?_⟩, fun w hw k hk => ?_, fun w hw => ?_, fun w hw => ?_, fun w hw => ?_⟩
  · rw [sx_up_same, pk_un (by omega), pk_un (by omega)]; exact h1
  · rw [sx_up_same, pk_un (by omega), pk_un (by omega)]; exact h2
  · rw [sx_up_same, pk_us, pk_us]
  · rw [sx_up_ne (by omega), pk_un (by omega)]; exact h4
  · rw [sx_up_ne (by omega), pk_un (by omega)]; exact h5 w hw k hk
  · rw [sx_up_ne (by omega), pk_un (by omega)]; exact h6 w hw
  · rw [sx_up_ne (by omega), pk_un (by omega)]; exact h7 w hw
  · rw [sx_up_ne (by omega), gb.cnt hT (pk_un (by omega)) (fun i _ _ => pk_un (by omega)) w]; exact h8 w hw
theorem gb.night (h : gb b s I) (v : Int32) (hT : gs_tn s) : gb b (upd s 2 v) (sx_up I b (upd (I b) 9 v)) := by
  obtain ⟨⟨h1, h2, h3, h4⟩, h5, h6, h7, h8⟩ := h
  refine ⟨⟨?_, ?_, ?_, ?_⟩, fun w hw k hk => ?_, fun w hw => ?_, fun w hw => ?_, fun w hw => ?_⟩
  · rw [sx_up_same, pk_un (by omega), pk_un (by omega)]; exact h1
  · rw [sx_up_same, pk_us, pk_us]
  · rw [sx_up_same, pk_un (by omega), pk_un (by omega)]; exact h3
  · rw [sx_up_ne (by omega), pk_un (by omega)]; exact h4
  · rw [sx_up_ne (by omega), pk_un (by omega)]; exact h5 w hw k hk
  · rw [sx_up_ne (by omega), pk_un (by omega)]; exact h6 w hw
  · rw [sx_up_ne (by omega), pk_un (by omega)]; exact h7 w hw
  · rw [sx_up_ne (by omega), gb.cnt hT (pk_un (by omega)) (fun i _ _ => pk_un (by omega)) w]; exact h8 w hw
theorem gb.num (h : gb b s I) (v : Int32) (hT : gs_tn s) : gb b (upd s 0 v) (sx_up I b (upd (I b) 1 v)) := by
  obtain ⟨⟨h1, h2, h3, h4⟩, h5, h6, h7, h8⟩ := h
  refine ⟨⟨?_, ?_, ?_, ?_⟩, fun w hw k hk => ?_, fun w hw => ?_, fun w hw => ?_, fun w hw => ?_⟩
  · rw [sx_up_same, pk_us, pk_us]
  · rw [sx_up_same, pk_un (by omega), pk_un (by omega)]; exact h2
  · rw [sx_up_same, pk_un (by omega), pk_un (by omega)]; exact h3
  · rw [sx_up_ne (by omega), pk_un (by omega)]; exact h4
  · rw [sx_up_ne (by omega), pk_un (by omega)]; exact h5 w hw k hk
  · rw [sx_up_ne (by omega), pk_un (by omega)]; exact h6 w hw
  · rw [sx_up_ne (by omega), pk_un (by omega)]; exact h7 w hw
  · rw [sx_up_ne (by omega), gb.cnt hT (pk_un (by omega)) (fun i _ _ => pk_un (by omega)) w]; exact h8 w hw
theorem gb.set (h : gb b s I) {k w : Nat} (hk : k < 10) (hw : w < 5) (v : Int32) (hT : gs_tn s) : gb b (gs_set s k w v) (sx_up I (b + 1 + w) (upd (I (b + 1 + w)) k v)) := by
  obtain ⟨⟨h1, h2, h3, h4⟩, h5, h6, h7, h8⟩ := h
  unfold gs_set
  refine ⟨⟨?_, ?_, ?_, ?_⟩, fun w' hw' k' hk' => ?_, fun w' hw' => ?_, fun w' hw' => ?_, fun w' hw' => ?_⟩
  · rw [sx_up_ne (by omega), pk_un (by omega)]; exact h1
  · rw [sx_up_ne (by omega), pk_un (by omega)]; exact h2
  · rw [sx_up_ne (by omega), pk_un (by omega)]; exact h3
  · rw [sx_up_ne (by omega), pk_un (by omega)]; exact h4
  · by_cases e : w' = w
    · subst e
      rw [sx_up_same]
      by_cases e2 : k' = k
      · subst e2; rw [pk_us, pk_us]
      · rw [pk_un e2, pk_un (by omega)]; exact h5 w' hw' k' hk'
    · rw [sx_up_ne (by omega), pk_un (by omega)]; exact h5 w' hw' k' hk'
  · rw [sx_up_ne (by omega), pk_un (by omega)]; exact h6 w' hw'
  · rw [sx_up_ne (by omega), pk_un (by omega)]; exact h7 w' hw'
  · rw [sx_up_ne (by omega), gb.cnt hT (pk_un (by omega)) (fun i _ _ => pk_un (by omega)) w']; exact h8 w' hw'
theorem gb.rule (h : gb b s I) {w : Nat} (hw : w < 4) (v : Int32) (hT : gs_tn s) : gb b (upd s (3 + w) v) (sx_up I (b + 6) (upd (I (b + 6)) w v)) := by
  obtain ⟨⟨h1, h2, h3, h4⟩, h5, h6, h7, h8⟩ := h
  refine ⟨⟨?_, ?_, ?_, ?_⟩, fun w' hw' k' hk' => ?_, fun w' hw' => ?_, fun w' hw' => ?_, fun w' hw' => ?_⟩
  · rw [sx_up_ne (by omega), pk_un (by omega)]; exact h1
  · rw [sx_up_ne (by omega), pk_un (by omega)]; exact h2
  · rw [sx_up_ne (by omega), pk_un (by omega)]; exact h3
  · rw [sx_up_ne (by omega), pk_un (by omega)]; exact h4
  · rw [sx_up_ne (by omega), pk_un (by omega)]; exact h5 w' hw' k' hk'
  · rw [sx_up_same]
    by_cases e : w' = w
    · subst e; rw [pk_us, pk_us]
    · rw [pk_un e, pk_un (by omega)]; exact h6 w' hw'
  · rw [sx_up_ne (by omega), pk_un (by omega)]; exact h7 w' hw'
  · rw [sx_up_ne (by omega), gb.cnt hT (pk_un (by omega)) (fun i _ _ => pk_un (by omega)) w']; exact h8 w' hw'
theorem gb.toll (h : gb b s I) {w : Nat} (hw : w < 3) (v : Int32) (hT : gs_tn s) : gb b (upd s (7 + w) v) (sx_up I (b + 7) (upd (I (b + 7)) w v)) := by
  obtain ⟨⟨h1, h2, h3, h4⟩, h5, h6, h7, h8⟩ := h
  refine ⟨⟨?_, ?_, ?_, ?_⟩, fun w' hw' k' hk' => ?_, fun w' hw' => ?_, fun w' hw' => ?_, fun w' hw' => ?_⟩
  · rw [sx_up_ne (by omega), pk_un (by omega)]; exact h1
  · rw [sx_up_ne (by omega), pk_un (by omega)]; exact h2
  · rw [sx_up_ne (by omega), pk_un (by omega)]; exact h3
  · rw [sx_up_ne (by omega), pk_un (by omega)]; exact h4
  · rw [sx_up_ne (by omega), pk_un (by omega)]; exact h5 w' hw' k' hk'
  · rw [sx_up_ne (by omega), pk_un (by omega)]; exact h6 w' hw'
  · rw [sx_up_same]
    by_cases e : w' = w
    · subst e; rw [pk_us, pk_us]
    · rw [pk_un e, pk_un (by omega)]; exact h7 w' hw'
  · rw [sx_up_ne (by omega), gb.cnt hT (pk_un (by omega)) (fun i _ _ => pk_un (by omega)) w']; exact h8 w' hw'
end
theorem gs_abs_off {x y : Int32} {a b : Nat} (hx : x = nI a) (hy : y = nI b) (ha : a < 2 ^ 30) (hb : b < 2 ^ 30) : gs_abs (x - y) = gs_off x y := by
  subst hx; subst hy
  unfold gs_abs gs_off
  by_cases h : a < b
  · rw [if_pos (pk_sneg hb h), if_pos (nI_lt h (by omega)), Int32.neg_sub]
  · rw [if_neg (by rw [pk_sub (by omega)]; exact nI_pos (by omega)), if_neg (nI_nlt (by omega) (by omega))]
theorem gb_kind_19 {s : Nat → Int32} {I : sx_I} (hb : gb 19 s I) {k : Nat} (h : k < 10) : I 20 k = s (12 + 5 * k + 0) := hb.2.1 0 (by omega) k h
theorem gb_post_19 {s : Nat → Int32} {I : sx_I} (hb : gb 19 s I) {k : Nat} (h : k < 10) : I 21 k = s (12 + 5 * k + 1) := hb.2.1 1 (by omega) k h
theorem gb_wear_19 {s : Nat → Int32} {I : sx_I} (hb : gb 19 s I) {k : Nat} (h : k < 10) : I 22 k = s (12 + 5 * k + 2) := hb.2.1 2 (by omega) k h
theorem gb_doubt_19 {s : Nat → Int32} {I : sx_I} (hb : gb 19 s I) {k : Nat} (h : k < 10) : I 23 k = s (12 + 5 * k + 3) := hb.2.1 3 (by omega) k h
theorem gb_up_19 {s : Nat → Int32} {I : sx_I} (hb : gb 19 s I) {k : Nat} (h : k < 10) : I 24 k = s (12 + 5 * k + 4) := hb.2.1 4 (by omega) k h
theorem gb_rule_19 {s : Nat → Int32} {I : sx_I} (hb : gb 19 s I) {k : Nat} (h : k < 4) : I 25 k = s (3 + k) := hb.2.2.1 k h
theorem gb_toll_19 {s : Nat → Int32} {I : sx_I} (hb : gb 19 s I) {k : Nat} (h : k < 3) : I 26 k = s (7 + k) := hb.2.2.2.1 k h
theorem gb_cnt_19 {s : Nat → Int32} {I : sx_I} (hb : gb 19 s I) {k : Nat} (h : k < 3) : I 27 k = gs_on (gs_counts s (nI k) (s 1).toNatClampNeg) := hb.2.2.2.2 k h
theorem gb_kind_28 {s : Nat → Int32} {I : sx_I} (hb : gb 28 s I) {k : Nat} (h : k < 10) : I 29 k = s (12 + 5 * k + 0) := hb.2.1 0 (by omega) k h
theorem gb_post_28 {s : Nat → Int32} {I : sx_I} (hb : gb 28 s I) {k : Nat} (h : k < 10) : I 30 k = s (12 + 5 * k + 1) := hb.2.1 1 (by omega) k h
theorem gb_wear_28 {s : Nat → Int32} {I : sx_I} (hb : gb 28 s I) {k : Nat} (h : k < 10) : I 31 k = s (12 + 5 * k + 2) := hb.2.1 2 (by omega) k h
theorem gb_doubt_28 {s : Nat → Int32} {I : sx_I} (hb : gb 28 s I) {k : Nat} (h : k < 10) : I 32 k = s (12 + 5 * k + 3) := hb.2.1 3 (by omega) k h
theorem gb_up_28 {s : Nat → Int32} {I : sx_I} (hb : gb 28 s I) {k : Nat} (h : k < 10) : I 33 k = s (12 + 5 * k + 4) := hb.2.1 4 (by omega) k h
theorem gb_rule_28 {s : Nat → Int32} {I : sx_I} (hb : gb 28 s I) {k : Nat} (h : k < 4) : I 34 k = s (3 + k) := hb.2.2.1 k h
theorem gb_toll_28 {s : Nat → Int32} {I : sx_I} (hb : gb 28 s I) {k : Nat} (h : k < 3) : I 35 k = s (7 + k) := hb.2.2.2.1 k h
theorem gb_cnt_28 {s : Nat → Int32} {I : sx_I} (hb : gb 28 s I) {k : Nat} (h : k < 3) : I 36 k = gs_on (gs_counts s (nI k) (s 1).toNatClampNeg) := hb.2.2.2.2 k h
theorem gb_kind_37 {s : Nat → Int32} {I : sx_I} (hb : gb 37 s I) {k : Nat} (h : k < 10) : I 38 k = s (12 + 5 * k + 0) := hb.2.1 0 (by omega) k h
theorem gb_post_37 {s : Nat → Int32} {I : sx_I} (hb : gb 37 s I) {k : Nat} (h : k < 10) : I 39 k = s (12 + 5 * k + 1) := hb.2.1 1 (by omega) k h
theorem gb_wear_37 {s : Nat → Int32} {I : sx_I} (hb : gb 37 s I) {k : Nat} (h : k < 10) : I 40 k = s (12 + 5 * k + 2) := hb.2.1 2 (by omega) k h
theorem gb_doubt_37 {s : Nat → Int32} {I : sx_I} (hb : gb 37 s I) {k : Nat} (h : k < 10) : I 41 k = s (12 + 5 * k + 3) := hb.2.1 3 (by omega) k h
theorem gb_up_37 {s : Nat → Int32} {I : sx_I} (hb : gb 37 s I) {k : Nat} (h : k < 10) : I 42 k = s (12 + 5 * k + 4) := hb.2.1 4 (by omega) k h
theorem gb_rule_37 {s : Nat → Int32} {I : sx_I} (hb : gb 37 s I) {k : Nat} (h : k < 4) : I 43 k = s (3 + k) := hb.2.2.1 k h
theorem gb_toll_37 {s : Nat → Int32} {I : sx_I} (hb : gb 37 s I) {k : Nat} (h : k < 3) : I 44 k = s (7 + k) := hb.2.2.2.1 k h
theorem gb_cnt_37 {s : Nat → Int32} {I : sx_I} (hb : gb 37 s I) {k : Nat} (h : k < 3) : I 45 k = gs_on (gs_counts s (nI k) (s 1).toNatClampNeg) := hb.2.2.2.2 k h
