/-! ===== the law: what holds between two calls ===== -/
section
variable {I J : sx_I} {rw : Nat → Nat → Option Nat} {u : Nat} {ln : Nat → Nat}
theorem gb.fr2 {b : Nat} {s : Nat → Int32} (hb : gb b s I) (h : ∀ q, ((b ≤ q ∧ q ≤ b + 8) ∨ q = b + 100) → J q = I q) : gb b s J := by
  obtain ⟨⟨h1, h2, h3, h4⟩, h5, h6, h7, h8⟩ := hb
  refine ⟨⟨by rw [h b (by omega)]; exact h1, by rw [h b (by omega)]; exact h2, by rw [h b (by omega)]; exact h3, by rw [h (b + 100) (by omega)]; exact h4⟩, fun w hw k hk => by rw [h _ (by omega)]; exact h5 w hw k hk, fun w hw => by rw [h _ (by omega)]; exact h6 w hw, fun w hw => by rw [h _ (by omega)]; exact h7 w hw, fun w hw => by rw [h _ (by omega)]; exact h8 w hw⟩
def lwA (I : sx_I) (rw : Nat → Nat → Option Nat) (u : Nat) (ln : Nat → Nat) : Prop := gb 19 (I 79) I ∧ gs_lw (I 79) ∧ gb_tx I (rw 19) (3 * u) ln (I 79)
def lwB (I : sx_I) (rw : Nat → Nat → Option Nat) (u : Nat) (ln : Nat → Nat) : Prop := ((I 15 4 = 0 ∧ I 78 3 = 0) ∨ (¬ I 15 4 = 0 ∧ ¬ I 78 3 = 0 ∧ gb 28 (I 80) I)) ∧ gs_lw (I 80) ∧ gb_tx I (rw 28) (3 * u) ln (I 80)
def lwC (I : sx_I) : Prop := gh (I 82) (I 83) (I 84) I ∧ gh_ok (I 82) (I 83) (I 84)
def lwD (I : sx_I) : Prop := gl (I 85) (I 86) (I 87) (I 88) (I 89) I ∧ gl_ok (I 85) (I 88)
def lwE (I : sx_I) : Prop := ∃ t, I 15 7 = nI t ∧ I 78 14 = nI t ∧ t ≤ 96 ∧ ∀ i, i < t → ∃ c, c < 256 ∧ I 91 i = nI c ∧ I 50 i = gy_sb c
def lwF (I : sx_I) : Prop := ∃ w, I 15 11 = nI w ∧ I 78 29 = nI w ∧ w ≤ 60 ∧ ∀ k, k < w → I 53 k = I 95 k
def lwG (_ : sx_I) : Prop := True
def lw (I : sx_I) (rw : Nat → Nat → Option Nat) (u : Nat) (ln : Nat → Nat) : Prop := lwA I rw u ln ∧ lwB I rw u ln ∧ lwC I ∧ lwD I ∧ lwE I ∧ lwF I ∧ lwG I
theorem lwA.cg (h : lwA I rw u ln) (hJ : ∀ q, ((19 ≤ q ∧ q ≤ 27) ∨ q = 119 ∨ q = 79 ∨ (200 ≤ q ∧ (q - 200) % 3 ≠ 2)) → J q = I q) : lwA J rw u ln := by
  obtain ⟨h1, h2, h3⟩ := h
  refine ⟨?_, ?_, ?_⟩
  · rw [hJ 79 (by omega)]; exact h1.fr2 (fun q a => hJ q (by omega))
  · rw [hJ 79 (by omega)]; exact h2
  · rw [hJ 79 (by omega)]; exact h3.cg (fun a ha hc => hJ a (by omega)) rfl (fun _ _ _ => rfl)
theorem lwB.cg (h : lwB I rw u ln) (hJ : ∀ q, ((28 ≤ q ∧ q ≤ 36) ∨ q = 128 ∨ q = 80 ∨ (200 ≤ q ∧ (q - 200) % 3 ≠ 2)) → J q = I q) (h4 : J 15 4 = I 15 4) (h5 : J 78 3 = I 78 3) : lwB J rw u ln := by
  obtain ⟨h1, h2, h3⟩ := h
  refine ⟨?_, ?_, ?_⟩
  · rw [hJ 80 (by omega), h4, h5]
    rcases h1 with z | ⟨z1, z2, z3⟩
    · exact Or.inl z
    · exact Or.inr ⟨z1, z2, z3.fr2 (fun q a => hJ q (by omega))⟩
  · rw [hJ 80 (by omega)]; exact h2
  · rw [hJ 80 (by omega)]; exact h3.cg (fun a ha hc => hJ a (by omega)) rfl (fun _ _ _ => rfl)
theorem lwA.rows {rw' : Nat → Nat → Option Nat} (h : lwA I rw u ln) (e : rw' 19 = rw 19) : lwA I rw' u ln := ⟨h.1, h.2.1, e ▸ h.2.2⟩
theorem lwB.rows {rw' : Nat → Nat → Option Nat} (h : lwB I rw u ln) (e : rw' 28 = rw 28) : lwB I rw' u ln := ⟨h.1, h.2.1, e ▸ h.2.2⟩
theorem lwC.cg (h : lwC I) (hJ : ∀ q, ((55 ≤ q ∧ q ≤ 62) ∨ (82 ≤ q ∧ q ≤ 84)) → J q = I q) : lwC J := by
  obtain ⟨h1, h2⟩ := h
  refine ⟨?_, ?_⟩
  · rw [hJ 82 (by omega), hJ 83 (by omega), hJ 84 (by omega)]; exact h1.fr (fun a x y => hJ a (by omega))
  · rw [hJ 82 (by omega), hJ 83 (by omega), hJ 84 (by omega)]; exact h2
theorem lwD.cg (h : lwD I) (hJ : ∀ q, ((63 ≤ q ∧ q ≤ 77) ∨ (85 ≤ q ∧ q ≤ 89)) → J q = I q) : lwD J := by
  obtain ⟨h1, h2⟩ := h
  refine ⟨?_, ?_⟩
  · rw [hJ 85 (by omega), hJ 86 (by omega), hJ 87 (by omega), hJ 88 (by omega), hJ 89 (by omega)]; exact h1.fr (fun a x y => hJ a (by omega))
  · rw [hJ 85 (by omega), hJ 88 (by omega)]; exact h2
theorem lwE.cg (h : lwE I) (h1 : J 15 7 = I 15 7) (h2 : J 78 14 = I 78 14) (h3 : J 50 = I 50) (h4 : J 91 = I 91) : lwE J := by
  unfold lwE; rw [h1, h2, h3, h4]; exact h
theorem lwF.cg (h : lwF I) (h1 : J 15 11 = I 15 11) (h2 : J 78 29 = I 78 29) (h3 : J 53 = I 53) (h4 : J 95 = I 95) : lwF J := by
  unfold lwF; rw [h1, h2, h3, h4]; exact h
theorem lwG.cg (_ : lwG I) (_ : J 80 1 = I 80 1) (_ : J 79 1 = I 79 1) : lwG J := trivial
theorem lw.rows {rw' : Nat → Nat → Option Nat} (h : lw I rw u ln) (e : gb_rw 37 rw rw') : lw I rw' u ln := ⟨h.1.rows (e 19 (by decide)), h.2.1.rows (e 28 (by decide)), h.2.2⟩
/-- nothing but what calls scribble on has changed -/
def lw_q (I J : sx_I) : Prop := ∀ q, ¬ (200 ≤ q ∧ (q - 200) % 3 = 2) → ((q < 37 ∨ 45 < q) ∧ q ≠ 137) → q ≠ 54 → q ≠ 90 → q ≠ 92 → q ≠ 93 → J q = I q
theorem lw_q.rf (I : sx_I) : lw_q I I := fun _ _ _ _ _ _ _ => rfl
theorem lw_q.tr {I2 : sx_I} (h : lw_q I J) (h2 : lw_q J I2) : lw_q I I2 := fun q a b c d e f => (h2 q a b c d e f).trans (h q a b c d e f)
theorem lw_q.k (h : gb_k I J) : lw_q I J := fun q a _ _ _ _ _ => h q a
theorem lw_q.f37 (h : gb_fr 37 I J) : lw_q I J := fun q a b _ _ _ _ => h q a (by omega)
theorem lw_q.f54 (h : gb_f54 I J) : lw_q I J := fun q a b c _ _ _ => h q a c b
theorem lw_q.sc (h : gs_sc I J) : lw_q I J := fun q _ _ _ _ e f => h q e f
theorem lw_q.sd (h : gs_sd I J) : lw_q I J := fun q _ _ _ c e f => h q c e f
theorem lw_q.a (h : lw_q I J) {q : Nat} (hq : (45 < q ∧ q < 54) ∨ (54 < q ∧ q < 90) ∨ (93 < q ∧ q < 119) ∨ q < 18) : J q = I q := h q (by omega) (by omega) (by omega) (by omega) (by omega) (by omega)
theorem lw_q.lw (hq : lw_q I J) (h : lw I rw u ln) : lw J rw u ln := by
  obtain ⟨hA, hB, hC, hD, hE, hF, hG⟩ := h
  refine ⟨hA.cg (fun q a => hq q (by omega) (by omega) (by omega) (by omega) (by omega) (by omega)), hB.cg (fun q a => hq q (by omega) (by omega) (by omega) (by omega) (by omega) (by omega)) ?_ ?_, hC.cg (fun q a => hq q (by omega) (by omega) (by omega) (by omega) (by omega) (by omega)), hD.cg (fun q a => hq q (by omega) (by omega) (by omega) (by omega) (by omega) (by omega)), hE.cg ?_ ?_ (hq.a (by omega)) (hq 91 (by omega) (by omega) (by omega) (by omega) (by omega) (by omega)), hF.cg ?_ ?_ (hq.a (by omega)) ?_, hG.cg ?_ ?_⟩
  · rw [hq.a (by omega)]
  · rw [hq.a (by omega)]
  · rw [hq.a (by omega)]
  · rw [hq.a (by omega)]
  · rw [hq.a (by omega)]
  · rw [hq.a (by omega)]
  · exact hq 95 (by omega) (by omega) (by omega) (by omega) (by omega) (by omega)
  · rw [hq.a (by omega)]
  · rw [hq.a (by omega)]
/-- the border of now has changed -/
theorem lw.now (h : lw I rw u ln) (hJ : gb_fr 19 I J) {X : Nat → Int32} (hb : gb 19 X J) (hs : gs_lw X ∧ gs_t2 (I 79) X) : lw (sx_up J 79 X) rw u ln := by
  obtain ⟨⟨-, -, hA3⟩, hB, hC, hD, hE, hF, hG⟩ := h
  have f : ∀ q, ¬ (200 ≤ q ∧ (q - 200) % 3 = 2) → ((q < 19 ∨ 27 < q) ∧ q ≠ 119) → q ≠ 79 → (sx_up J 79 X) q = I q := fun q a b c => (sx_up_ne c).trans (hJ q a (by omega))
  refine ⟨⟨?_, ?_, ?_⟩, hB.cg (fun q a => f q (by omega) (by omega) (by omega)) ?_ ?_, hC.cg (fun q a => f q (by omega) (by omega) (by omega)), hD.cg (fun q a => f q (by omega) (by omega) (by omega)), hE.cg ?_ ?_ (f _ (by omega) (by omega) (by omega)) (f _ (by omega) (by omega) (by omega)), hF.cg ?_ ?_ (f _ (by omega) (by omega) (by omega)) (f _ (by omega) (by omega) (by omega)), hG.cg ?_ ?_⟩
  · rw [sx_up_same]; exact hb.fr2 (fun q a => sx_up_ne (by omega))
  · rw [sx_up_same]; exact hs.1
  · rw [sx_up_same]; exact hA3.cg (fun a ha hc => f a (by omega) (by omega) (by omega)) hs.2.1 (fun i hi _ => hs.2.2 i hi)
  · rw [f _ (by omega) (by omega) (by omega)]
  · rw [f _ (by omega) (by omega) (by omega)]
  · rw [f _ (by omega) (by omega) (by omega)]
  · rw [f _ (by omega) (by omega) (by omega)]
  · rw [f _ (by omega) (by omega) (by omega)]
  · rw [f _ (by omega) (by omega) (by omega)]
  · rw [f _ (by omega) (by omega) (by omega)]
  · rw [sx_up_same]; exact hs.2.1
end
