/-! ===== the reference: the key; a text read ===== -/
def gy_look (T : Nat → Nat) (p q : Nat) : Bool := decide (q - p = 4 ∧ T p = 108 ∧ T (p + 1) = 111 ∧ T (p + 2) = 111 ∧ T (p + 3) = 107)
def gy_fee (T : Nat → Nat) (p q : Nat) : Bool := decide (q - p = 3 ∧ T p = 102 ∧ T (p + 1) = 101 ∧ T (p + 2) = 101)
def gy_fine (T : Nat → Nat) (p q : Nat) : Bool := decide (q - p = 4 ∧ T p = 102 ∧ T (p + 1) = 105 ∧ T (p + 2) = 110 ∧ T (p + 3) = 101)
def gy_key (T : Nat → Nat) (p q : Nat) : Int32 := if gy_look T p q = true then 0 else if gy_fee T p q = true then nI 1 else if gy_fine T p q = true then nI 2 else -1
def gy_ke (T : Nat → Nat) (n p : Nat) : Nat := if p < n then gy_to T n p else p
def gy_read (T : Nat → Nat) (n : Nat) (cmp : Nat → Int32) : Nat ⊕ (Int32 × List (Nat × Nat) × Nat) :=
  if gy_key T (gy_bl T n 0) (gy_ke T n (gy_bl T n 0)) = -1 then .inl (gy_bl T n 0)
  else match gy_run n (gy_key T (gy_bl T n 0) (gy_ke T n (gy_bl T n 0))) (gy_tk T n (gy_ke T n (gy_bl T n 0))) [] [] 0 0 0 true cmp with
    | .inl b => .inl b
    | .inr (o, w) => .inr (gy_key T (gy_bl T n 0) (gy_ke T n (gy_bl T n 0)), o, w)
section
variable {d m : Nat} {I I0 : sx_I} {rw : Nat → Nat → Option Nat} {ln : Nat → Nat} {K : sx_K} {T : Nat → Nat} {n a : Nat}
theorem c_isW {p q A B C D : Nat} {x y z v : Int32} (hT : gy_bt T n I) (h15 : I 78 15 = nI p) (h16 : I 78 16 = nI q) (hpq : p ≤ q) (hq : q ≤ n) (hx : x = nI A ∧ A < 256) (hy : y = nI B ∧ B < 256) (hz : z = nI C ∧ C < 256) (hv : v = nI D ∧ D < 256)
    (h1 : I 78 17 = nI 1 → q - p = (if D = 0 then 3 else 4) → T p = A → T (p + 1) = B → T (p + 2) = C → (D = 0 ∨ T (p + 3) = D) → K (some (.int (nI 1))) I (sx_run rw m ln))
    (h0 : ¬ (I 78 17 = nI 1 ∧ q - p = (if D = 0 then 3 else 4) ∧ T p = A ∧ T (p + 1) = B ∧ T (p + 2) = C ∧ (D = 0 ∨ T (p + 3) = D)) → K (some (.int (nI 0))) I (sx_run rw m ln)) : sx_C 176 (d + 1) [.ref 78, .int x, .int y, .int z, .int v] I (sx_run rw m ln) K := by
  obtain ⟨hx, a1⟩ := hx
  obtain ⟨hy, b1⟩ := hy
  obtain ⟨hz, c1⟩ := hz
  obtain ⟨hv, d1⟩ := hv
  subst hx; subst hy; subst hz; subst hv
  have hn9 := hT.2.1
  have hsub : I 78 16 - I 78 15 = nI (q - p) := by rw [h16, h15, pk_sub hpq]
  have at_ : ∀ i, p + i < q → (I 91 (p + i) = nI (T (p + i)) ∧ T (p + i) < 256) := fun i hi => hT.2.2 (p + i) (by omega)
  have cmpT : ∀ i X, p + i < q → X < 256 → (I 91 (p + i) = nI X ↔ T (p + i) = X) := by
    intro i X hi hX
    rw [(at_ i hi).1]; exact nI_eq (by have := (at_ i hi).2; omega) (by omega)
  have ix : ∀ i, I 78 15 + nI i = nI (p + i) := fun i => by rw [h15, nI_add]
  have D0 : nI D = 0 ↔ D = 0 := nI_eq (b := 0) (by omega) (by omega)
  refine sx_enter (by decide +kernel) (Nat.le_of_ble_eq_true rfl) (sx_go m176 100 rfl (fun VV CC hV hC => ?_))
  refine ⟨fun (cD : ¬ nI D = 0) => ?_, fun (cD : nI D = 0) => ?_⟩
  · have nD : ¬ D = 0 := fun z => cD (D0.mpr z)
    rw [if_neg nD] at h1 h0
    refine ⟨fun (g1 : ¬ I 78 17 = nI 1) => ⟨Or.inl rfl, h0 (fun z => g1 z.1)⟩, fun (g1 : I 78 17 = nI 1) => ⟨fun (g2 : ¬ I 78 16 - I 78 15 = nI 4) => ⟨Or.inl rfl, h0 (fun z => g2 (by rw [hsub, z.2.1]))⟩, fun (g2 : I 78 16 - I 78 15 = nI 4) => ?_⟩⟩
    rw [hsub, nI_eq (by omega) (by omega)] at g2
    refine ⟨p, ⟨h15, by omega⟩, fun (g3 : ¬ I 91 p = nI A) => ⟨Or.inl rfl, h0 (fun z => g3 ((cmpT 0 A (by omega) a1).mpr z.2.2.1))⟩, fun (g3 : I 91 p = nI A) => ?_⟩
    refine ⟨p + 1, ⟨ix 1, by omega⟩, fun (g4 : ¬ I 91 (p + 1) = nI B) => ⟨Or.inl rfl, h0 (fun z => g4 ((cmpT 1 B (by omega) b1).mpr z.2.2.2.1))⟩, fun (g4 : I 91 (p + 1) = nI B) => ?_⟩
    refine ⟨p + 2, ⟨ix 2, by omega⟩, fun (g5 : ¬ I 91 (p + 2) = nI C) => ⟨Or.inl rfl, h0 (fun z => g5 ((cmpT 2 C (by omega) c1).mpr z.2.2.2.2.1))⟩, fun (g5 : I 91 (p + 2) = nI C) => ⟨fun z => absurd z cD, fun _ => ?_⟩⟩
    refine ⟨p + 3, ⟨ix 3, by omega⟩, fun (g6 : ¬ I 91 (p + 3) = nI D) => ⟨Or.inl rfl, h0 (fun z => g6 ((cmpT 3 D (by omega) d1).mpr (z.2.2.2.2.2.resolve_left nD)))⟩, fun (g6 : I 91 (p + 3) = nI D) => ⟨Or.inr rfl, ?_⟩⟩
    exact h1 g1 g2 ((cmpT 0 A (by omega) a1).mp g3) ((cmpT 1 B (by omega) b1).mp g4) ((cmpT 2 C (by omega) c1).mp g5) (Or.inr ((cmpT 3 D (by omega) d1).mp g6))
  · have nD : D = 0 := D0.mp cD
    rw [if_pos nD] at h1 h0
    refine ⟨fun (g1 : ¬ I 78 17 = nI 1) => ⟨Or.inl rfl, h0 (fun z => g1 z.1)⟩, fun (g1 : I 78 17 = nI 1) => ⟨fun (g2 : ¬ I 78 16 - I 78 15 = nI 3) => ⟨Or.inl rfl, h0 (fun z => g2 (by rw [hsub, z.2.1]))⟩, fun (g2 : I 78 16 - I 78 15 = nI 3) => ?_⟩⟩
    rw [hsub, nI_eq (by omega) (by omega)] at g2
    refine ⟨p, ⟨h15, by omega⟩, fun (g3 : ¬ I 91 p = nI A) => ⟨Or.inl rfl, h0 (fun z => g3 ((cmpT 0 A (by omega) a1).mpr z.2.2.1))⟩, fun (g3 : I 91 p = nI A) => ?_⟩
    refine ⟨p + 1, ⟨ix 1, by omega⟩, fun (g4 : ¬ I 91 (p + 1) = nI B) => ⟨Or.inl rfl, h0 (fun z => g4 ((cmpT 1 B (by omega) b1).mpr z.2.2.2.1))⟩, fun (g4 : I 91 (p + 1) = nI B) => ?_⟩
    refine ⟨p + 2, ⟨ix 2, by omega⟩, fun (g5 : ¬ I 91 (p + 2) = nI C) => ⟨Or.inl rfl, h0 (fun z => g5 ((cmpT 2 C (by omega) c1).mpr z.2.2.2.2.1))⟩, fun (g5 : I 91 (p + 2) = nI C) => ⟨fun _ => ⟨Or.inr rfl, ?_⟩, fun z => absurd cD z⟩⟩
    exact h1 g1 g2 ((cmpT 0 A (by omega) a1).mp g3) ((cmpT 1 B (by omega) b1).mp g4) ((cmpT 2 C (by omega) c1).mp g5) (Or.inl nD)
/-- the first word of a tape -/
theorem c_key {p : Nat} (hT : gy_bt T n I) (hp : p ≤ n) (hr : gy_raw T n 0 p (gy_to T n p) I) (hk : K (some (.int (gy_key T p (gy_ke T n p)))) I (sx_run rw m ln)) : sx_C 177 (d + 2) [.ref 78] I (sx_run rw m ln) K := by
  obtain ⟨h15, hend, hgo⟩ := hr
  have h16 : I 78 16 = nI (gy_ke T n p) := by
    unfold gy_ke
    by_cases c : p < n
    · rw [if_pos c]; exact (hgo c).1
    · rw [if_neg c]; exact (hend (by omega)).1
  have hle : gy_ke T n p ≤ n ∧ p ≤ gy_ke T n p := by
    unfold gy_ke
    by_cases c : p < n
    · rw [if_pos c]; exact ⟨gy_to_le T n p c, Nat.le_of_lt (gy_to_gt T n p)⟩
    · rw [if_neg c]; exact ⟨hp, Nat.le_refl p⟩
  have hw : p < n → gy_so (T p) = 1 → I 78 17 = nI 1 := fun c s => (((hgo c).2.2.1 s).1.2 (fun z => absurd z.2.1 (Nat.lt_irrefl 0)))
  have hlt : gy_ke T n p - p ≠ 0 → p < n := by
    intro z
    unfold gy_ke at z
    by_cases c : p < n
    · exact c
    · rw [if_neg c] at z; omega
  generalize gy_ke T n p = q at h16 hle hlt hk
  have lk : gy_look T p q = true ↔ _ := decide_eq_true_iff
  have fe : gy_fee T p q = true ↔ _ := decide_eq_true_iff
  have fi : gy_fine T p q = true ↔ _ := decide_eq_true_iff
  have w108 : gy_so 108 = 1 := by decide
  have w102 : gy_so 102 = 1 := by decide
  have n4 : ∀ D, (if D + 1 = 0 then 3 else 4) = 4 := fun D => if_neg (by omega)
  refine sx_enter (by decide +kernel) (Nat.le_of_ble_eq_true rfl) (sx_go m177 100 rfl (fun VV CC hV hC => ?_))
  refine hC _ _ _ _ _ (c_isW (A := 108) (B := 111) (C := 111) (D := 107) hT h15 h16 hle.2 hle.1 ⟨rfl, by decide⟩ ⟨rfl, by decide⟩ ⟨rfl, by decide⟩ ⟨rfl, by decide⟩ (fun g1 g2 g3 g4 g5 g6 => ?_) (fun g => ?_))
  · refine ⟨fun (z : nI 1 = 0) => absurd z (by decide), fun _ => sx_kk ?_ hk⟩
    unfold gy_key
    rw [if_pos (lk.mpr ⟨g2, g3, g4, g5, g6.resolve_left (by decide)⟩)]; rfl
  · have nl : ¬ gy_look T p q = true := fun z => g (by
      have z := lk.mp z
      exact ⟨hw (hlt (by omega)) (by rw [z.2.1]; exact w108), z.1, z.2.1, z.2.2.1, z.2.2.2.1, Or.inr z.2.2.2.2⟩)
    refine ⟨fun _ => ?_, fun z => absurd rfl z⟩
    refine hC _ _ _ _ _ (c_isW (A := 102) (B := 101) (C := 101) (D := 0) hT h15 h16 hle.2 hle.1 ⟨rfl, by decide⟩ ⟨rfl, by decide⟩ ⟨rfl, by decide⟩ ⟨rfl, by decide⟩ (fun g1 g2 g3 g4 g5 g6 => ?_) (fun g => ?_))
    · refine ⟨fun (z : nI 1 = 0) => absurd z (by decide), fun _ => sx_kk ?_ hk⟩
      unfold gy_key
      rw [if_neg nl, if_pos (fe.mpr ⟨g2, g3, g4, g5⟩)]
    · have nf : ¬ gy_fee T p q = true := fun z => g (by
        have z := fe.mp z
        exact ⟨hw (hlt (by omega)) (by rw [z.2.1]; exact w102), z.1, z.2.1, z.2.2.1, z.2.2.2, Or.inl rfl⟩)
      refine ⟨fun _ => ?_, fun z => absurd rfl z⟩
      refine hC _ _ _ _ _ (c_isW (A := 102) (B := 105) (C := 110) (D := 101) hT h15 h16 hle.2 hle.1 ⟨rfl, by decide⟩ ⟨rfl, by decide⟩ ⟨rfl, by decide⟩ ⟨rfl, by decide⟩ (fun g1 g2 g3 g4 g5 g6 => ?_) (fun g => ?_))
      · refine ⟨fun (z : nI 1 = 0) => absurd z (by decide), fun _ => sx_kk ?_ hk⟩
        unfold gy_key
        rw [if_neg nl, if_neg nf, if_pos (fi.mpr ⟨g2, g3, g4, g5, g6.resolve_left (by decide)⟩)]
      · have nn : ¬ gy_fine T p q = true := fun z => g (by
          have z := fi.mp z
          exact ⟨hw (hlt (by omega)) (by rw [z.2.1]; exact w102), z.1, z.2.1, z.2.2.1, z.2.2.2.1, Or.inr z.2.2.2.2⟩)
        refine ⟨fun _ => sx_kk ?_ hk, fun z => absurd rfl z⟩
        unfold gy_key
        rw [if_neg nl, if_neg nf, if_neg nn]
end
