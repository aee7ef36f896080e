/-! ===== the class: sheets marked, poured, read, copied ===== -/
theorem gb_four {P : Nat → Prop} (h0 : P 0) (h1 : P 1) (h2 : P 2) (h3 : P 3) : ∀ j, j < 4 → P j := by
  intro w hw
  have : w = 0 ∨ w = 1 ∨ w = 2 ∨ w = 3 := by omega
  rcases this with rfl | rfl | rfl | rfl
  · exact h0
  · exact h1
  · exact h2
  · exact h3
theorem gh_S {S Z R : Nat → Int32} (h : gh_ok S Z R) {j : Nat} (hj : j < 4) : S j < 0 ↔ S j = -1 := by
  rcases (h j hj).1 with e | e | e <;> rw [e] <;> decide +kernel
theorem gb_fr.gh {b : Nat} {S Z R : Nat → Int32} {I J : sx_I} (h : gb_fr b I J) (hb : b < 46) (hg : gh S Z R I) : gh S Z R J := hg.fr (fun a h1 h2 => h a (by omega) (by omega))
section
variable {d m : Nat} {I : sx_I} {rw : Nat → Nat → Option Nat} {ln : Nat → Nat} {K : sx_K} {s S Z R : Nat → Int32}
theorem c1_sheet {a sort n : Int32} (hg : gh S Z R I) (hbad : (gs_in a 0 (nI 3) = 0 ∨ gs_in sort (-1) (nI 1) = 0 ∨ (¬ sort < 0 ∧ nI 24 < n)) → K (some (.int (-1000000001))) I (sx_run rw m ln)) (hsize : ¬ (gs_in a 0 (nI 3) = 0 ∨ gs_in sort (-1) (nI 1) = 0 ∨ (¬ sort < 0 ∧ nI 24 < n)) → ¬ sort < 0 → n < 0 → K (some (.int (-1000000014))) I (sx_run rw m ln))
    (hk : ∀ j v J, ¬ (gs_in a 0 (nI 3) = 0 ∨ gs_in sort (-1) (nI 1) = 0 ∨ (¬ sort < 0 ∧ nI 24 < n)) → a = nI j → j < 4 → ((sort < 0 ∧ v = 0) ∨ (¬ sort < 0 ∧ ¬ n < 0 ∧ v = n)) → (∀ q, (q < 55 ∨ 62 < q) → J q = I q) → gh (upd S j sort) (upd Z j v) (gs_tp R (24 * j) (fun _ => 0) 24) J → K (some (.int v)) J (sx_run rw m ln)) : sx_C 87 (d + 4) [.ref 15, .int a, .int sort, .int n] I (sx_run rw m ln) K := by
  by_cases c1 : gs_in a 0 (nI 3) = 0
  · refine sx_enter (by decide +kernel) (Nat.le_of_ble_eq_true rfl) (sx_go m87 60 rfl (fun VV CC hV hC => ?_))
    exact hC _ _ _ _ _ (c_isSheet1 ⟨fun _ => hbad (Or.inl c1), fun (q : ¬ gs_in a 0 (nI 3) = 0) => absurd c1 q⟩)
  · by_cases c2 : gs_in sort (-1) (nI 1) = 0
    · refine sx_enter (by decide +kernel) (Nat.le_of_ble_eq_true rfl) (sx_go m87 60 rfl (fun VV CC hV hC => ?_))
      exact hC _ _ _ _ _ (c_isSheet1 ⟨fun (q : gs_in a 0 (nI 3) = 0) => absurd q c1, fun _ => hC _ _ _ _ _ (c_isWithin ⟨fun (q : ¬ gs_in sort (-1) (nI 1) = 0) => absurd c2 q, fun _ => hbad (Or.inr (Or.inl c2))⟩)⟩)
    · have hs1 : sort < 0 ↔ sort = -1 := by
        have h := gs_in_iff.mp c2
        rw [Int32.le_iff_toInt_le, Int32.le_iff_toInt_le, nI_toInt (by omega)] at h
        rw [Int32.lt_iff_toInt_lt, ← Int32.toInt_inj]
        have e1 : (-1 : Int32).toInt = -1 := by decide +kernel
        have e0 : (0 : Int32).toInt = 0 := by decide +kernel
        rw [e1] at h ⊢
        rw [e0]
        omega
      obtain ⟨j, rfl, _, h3⟩ := gs_in_nat (a := 0) (by decide) c1 (by decide)
      have far : ∀ (J : sx_I) (x y : Nat), 55 ≤ x → x ≤ 62 → 55 ≤ y → y ≤ 62 → (∀ q, q ≠ x → q ≠ y → J q = I q) → ∀ q, (q < 55 ∨ 62 < q) → J q = I q := fun J x y h1 h2 h3 h4 h q hq => h q (by omega) (by omega)
      by_cases c3 : ¬ sort < 0 ∧ nI 24 < n
      · have hb := hbad (Or.inr (Or.inr c3))
        refine sx_enter (by decide +kernel) (Nat.le_of_ble_eq_true rfl) (sx_go m87 60 rfl (fun VV CC hV hC => ?_))
        exact hC _ _ _ _ _ (c_isSheet1 ⟨fun (q : gs_in (nI j) 0 (nI 3) = 0) => absurd q c1, fun _ => hC _ _ _ _ _ (c_isWithin ⟨fun _ => ⟨fun _ => ⟨fun (q : n ≤ nI 24) => absurd c3.2 (Int32.not_lt.mpr q), fun _ => hb⟩, fun (q : sort = -1) => absurd (hs1.mpr q) c3.1⟩, fun (q : gs_in sort (-1) (nI 1) = 0) => absurd q c2⟩)⟩)
      · have ok : ¬ (gs_in (nI j) 0 (nI 3) = 0 ∨ gs_in sort (-1) (nI 1) = 0 ∨ (¬ sort < 0 ∧ nI 24 < n)) := by
          rintro (h | h | h)
          · exact c1 h
          · exact c2 h
          · exact c3 h
        by_cases c4 : ¬ sort < 0 ∧ n < 0
        · have hz := hsize ok c4.1 c4.2
          have c5 : n ≤ nI 24 := Int32.not_lt.mp (fun h => c3 ⟨c4.1, h⟩)
          refine sx_enter (by decide +kernel) (Nat.le_of_ble_eq_true rfl) (sx_go m87 60 rfl (fun VV CC hV hC => ?_))
          exact hC _ _ _ _ _ (c_isSheet1 ⟨fun (q : gs_in (nI j) 0 (nI 3) = 0) => absurd q c1, fun _ => hC _ _ _ _ _ (c_isWithin ⟨fun _ => ⟨fun _ => ⟨fun _ => ⟨fun (q : 0 ≤ n) => absurd c4.2 (Int32.not_lt.mpr q), fun _ => hz⟩, fun (q : ¬ n ≤ nI 24) => absurd c5 q⟩, fun (q : sort = -1) => absurd (hs1.mpr q) c4.1⟩, fun (q : gs_in sort (-1) (nI 1) = 0) => absurd q c2⟩)⟩)
        · have hk2 := fun v J => hk j v J ok rfl (by omega)
          have k0 : sort = -1 → ∀ (J : sx_I), (∀ q, (q < 55 ∨ 62 < q) → J q = I q) → gh (upd S j (-1)) (upd Z j 0) (gs_tp R (24 * j) (fun _ => 0) 24) J → K (some (.int 0)) J (sx_run rw m ln) := by
            intro e J h1 h2
            exact hk2 0 J (Or.inl ⟨hs1.mpr e, rfl⟩) h1 (by rw [e]; exact h2)
          have k1 : ¬ sort = -1 → ∀ (J : sx_I), (∀ q, (q < 55 ∨ 62 < q) → J q = I q) → gh (upd S j sort) (upd Z j n) (gs_tp R (24 * j) (fun _ => 0) 24) J → K (some (.int n)) J (sx_run rw m ln) := by
            intro e J h1 h2
            exact hk2 n J (Or.inr ⟨fun h => e (hs1.mp h), fun h => c4 ⟨fun h => e (hs1.mp h), h⟩, rfl⟩) h1 h2
          by_cases c5 : sort = -1
          · have c6 : sort < 0 := hs1.mpr c5
            have hj4 : j < 4 := by omega
            have hall : ∀ j, j < 4 → gh S Z R I → (∀ (J : sx_I), (∀ q, (q < 55 ∨ 62 < q) → J q = I q) → gh (upd S j (-1)) (upd Z j 0) (gs_tp R (24 * j) (fun _ => 0) 24) J → K (some (.int 0)) J (sx_run rw m ln)) → sx_C 87 (d + 4) [.ref 15, .int (nI j), .int sort, .int n] I (sx_run rw m ln) K := by
              refine gb_four (fun hg h => ?_) (fun hg h => ?_) (fun hg h => ?_) (fun hg h => ?_)
              · exact sheet0_55 c5 c2 hg (fun J h1 h2 => h J (far J 55 56 (by omega) (by omega) (by omega) (by omega) h1) h2)
              · exact sheet0_57 c5 c2 hg (fun J h1 h2 => h J (far J 57 58 (by omega) (by omega) (by omega) (by omega) h1) h2)
              · exact sheet0_59 c5 c2 hg (fun J h1 h2 => h J (far J 59 60 (by omega) (by omega) (by omega) (by omega) h1) h2)
              · exact sheet0_61 c5 c2 hg (fun J h1 h2 => h J (far J 61 62 (by omega) (by omega) (by omega) (by omega) h1) h2)
            exact hall j hj4 hg (k0 c5)
          · have c6 : ¬ sort < 0 := fun h => c5 (hs1.mp h)
            have c7 : n ≤ nI 24 := Int32.not_lt.mp (fun h => c3 ⟨c6, h⟩)
            have c8 : ¬ n < 0 := fun h => c4 ⟨c6, h⟩
            have hj4 : j < 4 := by omega
            have hall : ∀ j, j < 4 → gh S Z R I → (∀ (J : sx_I), (∀ q, (q < 55 ∨ 62 < q) → J q = I q) → gh (upd S j sort) (upd Z j n) (gs_tp R (24 * j) (fun _ => 0) 24) J → K (some (.int n)) J (sx_run rw m ln)) → sx_C 87 (d + 4) [.ref 15, .int (nI j), .int sort, .int n] I (sx_run rw m ln) K := by
              refine gb_four (fun hg h => ?_) (fun hg h => ?_) (fun hg h => ?_) (fun hg h => ?_)
              · exact sheet1_55 c5 c2 c7 c8 hg (fun J h1 h2 => h J (far J 55 56 (by omega) (by omega) (by omega) (by omega) h1) h2)
              · exact sheet1_57 c5 c2 c7 c8 hg (fun J h1 h2 => h J (far J 57 58 (by omega) (by omega) (by omega) (by omega) h1) h2)
              · exact sheet1_59 c5 c2 c7 c8 hg (fun J h1 h2 => h J (far J 59 60 (by omega) (by omega) (by omega) (by omega) h1) h2)
              · exact sheet1_61 c5 c2 c7 c8 hg (fun J h1 h2 => h J (far J 61 62 (by omega) (by omega) (by omega) (by omega) h1) h2)
            exact hall j hj4 hg (k1 c5)
theorem c1_mark_55 {p v : Int32} (hg : gh S Z R I) (ho : gh_ok S Z R) (hk : ∀ J, (∀ q, (q < 55 ∨ 62 < q) → J q = I q) → gh S Z (gs_mark S Z R (nI 0) p v).1 J → K (some (.int (gs_mark S Z R (nI 0) p v).2)) J (sx_run rw m ln)) : sx_C 88 (d + 3) [.ref 15, .int (nI 0), .int p, .int v] I (sx_run rw m ln) K := by
  have hsh : ¬ gs_in (nI 0) 0 (nI 3) = 0 := gs_in_c (by omega) (by omega)
  obtain ⟨g0, g1, g2⟩ := hg 0 (by omega)
  have g0 : I 55 0 = S 0 := g0
  have g1 : I 55 1 = Z 0 := g1
  obtain ⟨o0, ⟨z, oz, oz24⟩, o2⟩ := ho 0 (by omega)
  have hneg := gh_S ho (j := 0) (by omega)
  generalize e : gs_mark S Z R (nI 0) p v = g at hk
  unfold gs_mark at e
  rw [if_neg hsh, show (nI 0).toNatClampNeg = 0 from nI_clamp (by omega)] at e
  have bad : ∀ x, (R, x) = g → K (some (.int x)) I (sx_run rw m ln) := by
    intro x h; subst h; exact hk I (fun _ _ => rfl) hg
  have put : ∀ i y, i < 24 → (upd R (24 * 0 + i) y, nI 1) = g → K (some (.int (nI 1))) (sx_up I 56 (upd (I 56) i y)) (sx_run rw m ln) := by
    intro i y hi h
    subst h
    refine hk _ (fun q hq => sx_up_ne (by omega)) ?_
    show gh S Z (upd R (24 * 0 + i) y) _
    intro j hj
    by_cases ej : j = 0
    · subst ej
      refine ⟨by rw [sx_up_ne (by omega)]; exact (hg _ hj).1, by rw [sx_up_ne (by omega)]; exact (hg _ hj).2.1, fun i' hi' => ?_⟩
      show (sx_up I 56 (upd (I 56) i y)) 56 i' = _
      rw [sx_up_same]
      by_cases ei : i' = i
      · subst ei; rw [pk_us, pk_us]
      · rw [pk_un ei, pk_un (by omega)]; exact (hg _ hj).2.2 i' hi'
    · rw [sx_up_ne (by omega), sx_up_ne (by omega)]
      obtain ⟨q1, q2, q3⟩ := hg j hj
      exact ⟨q1, q2, fun i' hi' => by rw [pk_un (by omega)]; exact q3 i' hi'⟩
  refine sx_enter (by decide +kernel) (Nat.le_of_ble_eq_true rfl) (sx_go m88 100 rfl (fun VV CC hV hC => ?_))
  refine hC _ _ _ _ _ (c_isSheet1 ⟨fun _ => ⟨0, ⟨rfl, by omega⟩, fun b (eb : some 55 = some b) => ?_, fun (eb : some 55 = none) => by cases eb⟩, fun (c1 : gs_in (nI 0) 0 (nI 3) = 0) => absurd c1 hsh⟩)
  cases eb
  refine ⟨fun (c2 : ¬ I 55 0 = -1) => hC _ _ _ _ _ (c_isWithin ⟨fun (c3 : ¬ gs_in p (nI 0) (I 55 1 - nI 1) = 0) => ?_, fun (c3 : gs_in p (nI 0) (I 55 1 - nI 1) = 0) => bad _ ?_⟩), fun (c2 : I 55 0 = -1) => bad _ ?_⟩
  · rw [g0] at c2
    rw [g1] at c3
    rw [if_neg (fun h => c2 (hneg.mp h)), if_neg (show ¬ gs_in p 0 (Z 0 - nI 1) = 0 from c3)] at e
    obtain ⟨i, rfl, hi⟩ := gs_place oz (by omega) c3
    rw [nI_clamp (by omega)] at e
    refine ⟨fun (c4 : ¬ I 55 0 = 0) => ?_, fun (c4 : I 55 0 = 0) => ⟨fun (c5 : ¬ v = -1000000005) => ⟨i, ⟨rfl, by omega⟩, put i _ (by omega) ?_⟩, fun (c5 : v = -1000000005) => bad _ ?_⟩⟩
    · rw [g0] at c4
      have h1 : S 0 = nI 1 := (o0.resolve_left c2).resolve_left c4
      rw [if_neg (fun h => c4 h.1)] at e
      refine ⟨fun (c5 : v = -1000000005) => ⟨i, ⟨rfl, by omega⟩, put i _ (by omega) ?_⟩, fun (c5 : ¬ v = -1000000005) => hC _ _ _ _ _ (c_isWithin ⟨fun (c6 : ¬ gs_in v (-99999) (nI 99999) = 0) => ⟨i, ⟨rfl, by omega⟩, put i _ (by omega) ?_⟩, fun (c6 : gs_in v (-99999) (nI 99999) = 0) => bad _ ?_⟩)⟩
      · rw [if_neg (fun h => h.2.1 c5)] at e
        unfold gs_mkV at e
        rw [if_neg c4] at e
        exact e
      · rw [if_neg (fun h => c6 h.2.2)] at e
        unfold gs_mkV at e
        rw [if_neg c4] at e
        exact e
      · rw [if_pos ⟨h1, c5, c6⟩] at e; exact e
    · rw [g0] at c4
      rw [if_neg (fun h => c5 h.2), if_neg (fun h => by rw [c4] at h; exact absurd h.1 (by decide +kernel))] at e
      unfold gs_mkV at e
      rw [if_pos c4, gs_short] at e
      exact e
    · rw [g0] at c4
      rw [if_pos ⟨c4, c5⟩] at e; exact e
  · rw [g0] at c2
    rw [g1] at c3
    rw [if_neg (fun h => c2 (hneg.mp h)), if_pos (show gs_in p 0 (Z 0 - nI 1) = 0 from c3)] at e
    exact e
  · rw [g0] at c2
    rw [if_pos (hneg.mpr c2)] at e
    exact e
theorem v1_reads_55 {n z : Nat} (hb : gb 19 s I) (hn : s 0 = nI n) (hn10 : n ≤ 10) (hz : I 55 1 = nI z) (hz24 : z ≤ 24) (hg : ∀ i, i < 24 → I 56 i = R (24 * 0 + i)) (hk : K (some (.int (if gs_fst (gs_readF s R 0) z < z then nI (gs_fst (gs_readF s R 0) z) else -1000000005))) I (sx_run rw m ln)) :
    ∀ (r k : Nat) (I' : sx_I), k + r = z → (I' = I ∧ ∀ i, i < k → gs_readF s R 0 i = false) → sx_V 90 (d + 2) 0 0 K 30 [(0, .ref 15), (2, .ref 55), (3, .int (nI k))] [] I' (sx_run rw m ln) := by
  refine sx_for z (fun I' h => ?_) (fun k I' hkc h ih => ?_)
  · obtain ⟨rfl, hbef⟩ := h
    rw [gs_fst_none _ _ hbef, if_neg (Nat.lt_irrefl _)] at hk
    refine sx_go m90 60 rfl (fun VV CC hV hC => ?_)
    refine ⟨fun _ => hk, fun (c1 : ¬ I' 55 1 ≤ nI z) => ?_⟩
    exfalso; rw [hz] at c1; exact c1 (Int32.le_refl _)
  · obtain ⟨rfl, hbef⟩ := h
    have nxt : gs_readF s R 0 k = false → sx_V 90 (d + 2) 0 0 K 30 [(0, .ref 15), (2, .ref 55), (3, .int (nI k + nI 1))] [] I' (sx_run rw m ln) := by
      intro e
      have := ih I' ⟨rfl, fun i hi => by
        rcases Nat.lt_or_ge i k with q | q
        · exact hbef i q
        · have : i = k := by omega
          subst this; exact e⟩
      rw [nI_succ k] at this
      exact this
    have fin : gs_readF s R 0 k = true → K (some (.int (nI k))) I' (sx_run rw m ln) := by
      intro e
      rw [gs_fst_at _ z k hkc hbef e, if_pos hkc] at hk
      exact hk
    refine sx_go m90 60 rfl (fun VV CC hV hC => ?_)
    refine ⟨fun (c1 : I' 55 1 ≤ nI k) => ?_, fun _ => hC _ _ _ _ _ (c_isNum_55 rfl (by omega) (fun c2 => ⟨fun _ => hV _ _ _ _ _ _ _ (nxt ?_), fun (q : ¬ nI 0 = 0) => absurd rfl q⟩) (fun c2 => ⟨fun (q : nI 1 = 0) => absurd q (by decide +kernel), fun _ => ⟨fun (c3 : I' 19 1 ≤ nI k) => fin ?_, fun (c3 : ¬ I' 19 1 ≤ nI k) => ?_⟩⟩))⟩
    · exfalso; rw [hz] at c1; exact nI_ge hkc (by omega) c1
    · rw [hg k (by omega)] at c2
      exact decide_eq_false (fun h => h.1 c2)
    · rw [hg k (by omega)] at c2
      rw [hb.1.1] at c3
      exact decide_eq_true ⟨c2, Or.inl c3⟩
    · rw [hg k (by omega)] at c2
      rw [hb.1.1, hn, nI_leI (by omega) (by omega)] at c3
      have c4 : ¬ s 0 ≤ nI k := by rw [hn, nI_leI (by omega) (by omega)]; exact c3
      refine ⟨k, ⟨rfl, by omega⟩, k, ⟨rfl, by omega⟩, fun (c5 : I' 56 k = I' 21 k) => hV _ _ _ _ _ _ _ (nxt ?_), fun (c5 : ¬ I' 56 k = I' 21 k) => fin ?_⟩
      · rw [hg k (by omega), gb_post_19 hb (by omega)] at c5
        exact decide_eq_false (fun h => h.2.elim c4 (fun q => q c5))
      · rw [hg k (by omega), gb_post_19 hb (by omega)] at c5
        exact decide_eq_true ⟨c2, Or.inr c5⟩
theorem c1_reads_55 (hb : gb 19 s I) (hi : gs_inv s) (hg : gh S Z R I) (ho : gh_ok S Z R) (hk : K (some (.int (gs_reads s S Z R (nI 0)))) I (sx_run rw m ln)) : sx_C 90 (d + 3) [.ref 15, .int (nI 0)] I (sx_run rw m ln) K := by
  obtain ⟨⟨n, hn, hn10⟩, -⟩ := id hi
  have hsh : ¬ gs_in (nI 0) 0 (nI 3) = 0 := gs_in_c (by omega) (by omega)
  obtain ⟨g0, g1, g2⟩ := hg 0 (by omega)
  have g0 : I 55 0 = S 0 := g0
  have g1 : I 55 1 = Z 0 := g1
  obtain ⟨o0, ⟨z, oz, oz24⟩, o2⟩ := ho 0 (by omega)
  have hneg := gh_S ho (j := 0) (by omega)
  unfold gs_reads at hk
  rw [if_neg hsh, show (nI 0).toNatClampNeg = 0 from nI_clamp (by omega), oz, nI_clamp (by omega)] at hk
  refine sx_enter (by decide +kernel) (Nat.le_of_ble_eq_true rfl) (sx_go m90 100 rfl (fun VV CC hV hC => ?_))
  refine hC _ _ _ _ _ (c_isSheet1 ⟨fun _ => ⟨0, ⟨rfl, by omega⟩, fun b (eb : some 55 = some b) => ?_, fun (eb : some 55 = none) => by cases eb⟩, fun (c1 : gs_in (nI 0) 0 (nI 3) = 0) => absurd c1 hsh⟩)
  cases eb
  refine ⟨fun (c2 : ¬ I 55 0 = -1) => hV _ _ _ _ _ _ _ ?_, fun (c2 : I 55 0 = -1) => ?_⟩
  · rw [g0] at c2
    rw [if_neg (fun h => c2 (hneg.mp h))] at hk
    exact v1_reads_55 (d := d + 1) hb hn hn10 (g1.trans oz) oz24 g2 hk z 0 I (by omega) ⟨rfl, fun i hi => absurd hi (Nat.not_lt_zero i)⟩
  · rw [g0] at c2
    rw [if_pos (hneg.mpr c2)] at hk
    exact hk
theorem v1_pour_55 {n z : Nat} (hn : s 0 = nI n) (hn10 : n ≤ 10) (hz24 : z ≤ 24) (hT : gs_tn s) (hg : ∀ i, i < 24 → I 56 i = R (24 * 0 + i)) (hk : ∀ J, gb_fr 19 I J → gb 19 (gs_it (gs_pour1 R 0) (min z n) s) J → K (some (.int (gs_pourC R 0 s (min z n)))) J (sx_run rw m ln)) :
    ∀ (r k : Nat) (J : sx_I), k + r = min z n → (gb_fr 19 I J ∧ gb 19 (gs_it (gs_pour1 R 0) k s) J) → sx_V 89 (d + 3) 0 0 K 49 [(0, .ref 15), (2, .ref 55), (3, .int (gs_pourC R 0 s k)), (4, .int (nI (min z n))), (5, .int (nI k))] [] J (sx_run rw m ln) := by
  have hlo : ∀ k, k ≤ 10 → gs_lo s (gs_it (gs_pour1 R 0) k s) := fun k hk => gs_lo.it _ k (fun k' s hk' => gs_lo.set s k' 2 _ (by omega) (by omega))
  refine sx_for (min z n) (fun J h => ?_) (fun k J hkc h ih => ?_)
  · refine sx_go m89 60 rfl (fun VV CC hV hC => ?_)
    exact ⟨fun _ => hk J h.1 h.2, fun (c1 : ¬ nI (min z n) ≤ nI (min z n)) => absurd (Int32.le_refl _) c1⟩
  · obtain ⟨hf, hb⟩ := h
    have eR : J 56 k = R (24 * 0 + k) := by rw [hf 56 (by omega) (by omega)]; exact hg k (by omega)
    have fin : ∀ v, v = gs_pourV (gs_it (gs_pour1 R 0) k s) R 0 k → (J 22 k = v → sx_V 89 (d + 3) 0 0 K 49 [(0, .ref 15), (2, .ref 55), (3, .int (gs_pourC R 0 s k)), (4, .int (nI (min z n))), (5, .int (nI k + nI 1))] [] J (sx_run rw m ln)) ∧ (¬ J 22 k = v → sx_V 89 (d + 3) 0 0 K 49 [(0, .ref 15), (2, .ref 55), (3, .int (gs_pourC R 0 s k + nI 1)), (4, .int (nI (min z n))), (5, .int (nI k + nI 1))] [] (sx_up J 22 (upd (J 22) k v)) (sx_run rw m ln)) := by
      intro v hv
      rw [gb_wear_19 hb (by omega)]
      refine ⟨fun h => ?_, fun h => ?_⟩
      · have := ih J ⟨hf, by rw [gs_it, gs_pour1, ← hv, ← h]; unfold gs_set; rw [gs_upself]; exact hb⟩
        rw [nI_succ k, show gs_pourC R 0 s (k + 1) = gs_pourC R 0 s k by
          rw [gs_pourC, ← hv, if_pos h.symm]; exact Int32.add_zero _] at this
        exact this
      · have := ih (sx_up J 22 (upd (J 22) k v)) ⟨hf.tr (gb_fr.up J 22 _ (by omega) (by omega)), by rw [gs_it, gs_pour1, ← hv]; exact hb.set (w := 2) (by omega) (by omega) v ((hlo k (by omega)).tn hT)⟩
        rw [nI_succ k, show gs_pourC R 0 s (k + 1) = gs_pourC R 0 s k + nI 1 by
          rw [gs_pourC, ← hv, if_neg (fun q => h q.symm)]] at this
        exact this
    refine sx_go m89 60 rfl (fun VV CC hV hC => ?_)
    refine ⟨fun (c1 : nI (min z n) ≤ nI k) => absurd c1 (nI_ge hkc (by omega)), fun _ => hC _ _ _ _ _ (c_isNum_55 rfl (by omega) (fun c2 => ⟨fun _ => ⟨k, ⟨rfl, by omega⟩, k, ⟨rfl, by omega⟩, fun _ => hV _ _ _ _ _ _ _ ((fin (J 22 k) ?_).1 rfl), fun (q : ¬ J 22 k = J 22 k) => absurd rfl q⟩, fun (q : ¬ nI 0 = 0) => absurd rfl q⟩) (fun c2 => ⟨fun (q : nI 1 = 0) => absurd q (by decide +kernel), fun _ => ⟨k, ⟨rfl, by omega⟩, hC _ _ _ _ _ (c_held ⟨k, ⟨rfl, by omega⟩, fun (c3 : J 22 k = gs_wi (J 56 k) (nI 99)) => hV _ _ _ _ _ _ _ ((fin _ ?_).1 c3), fun (c3 : ¬ J 22 k = gs_wi (J 56 k) (nI 99)) => ⟨k, ⟨rfl, by omega⟩, hV _ _ _ _ _ _ _ ((fin _ ?_).2 c3)⟩⟩)⟩⟩))⟩
    · rw [eR] at c2
      unfold gs_pourV
      rw [if_pos c2, gb_wear_19 hb (by omega)]
    · rw [eR] at c2 ⊢
      unfold gs_pourV
      rw [if_neg c2]
    · rw [eR] at c2 ⊢
      unfold gs_pourV
      rw [if_neg c2]
theorem c1_pour_55 (hb : gb 19 s I) (hi : gs_inv s) (hT : gs_tn s) (hg : gh S Z R I) (ho : gh_ok S Z R) (hk : ∀ J, gb_fr 19 I J → gb 19 (gs_pour s S Z R (nI 0)).1 J → K (some (.int (gs_pour s S Z R (nI 0)).2)) J (sx_run rw m ln)) : sx_C 89 (d + 4) [.ref 15, .int (nI 0)] I (sx_run rw m ln) K := by
  obtain ⟨⟨n, hn, hn10⟩, -⟩ := id hi
  have hsh : ¬ gs_in (nI 0) 0 (nI 3) = 0 := gs_in_c (by omega) (by omega)
  obtain ⟨g0, g1, g2⟩ := hg 0 (by omega)
  have g0 : I 55 0 = S 0 := g0
  have g1 : I 55 1 = Z 0 := g1
  obtain ⟨o0, ⟨z, oz, oz24⟩, o2⟩ := ho 0 (by omega)
  have hneg := gh_S ho (j := 0) (by omega)
  generalize e : gs_pour s S Z R (nI 0) = g at hk
  unfold gs_pour at e
  rw [if_neg hsh, show (nI 0).toNatClampNeg = 0 from nI_clamp (by omega), oz, nI_clamp (by omega), gs_N_eq hn hn10] at e
  refine sx_enter (by decide +kernel) (Nat.le_of_ble_eq_true rfl) (sx_go m89 100 rfl (fun VV CC hV hC => ?_))
  refine hC _ _ _ _ _ (c_isSheet1 ⟨fun _ => ⟨0, ⟨rfl, by omega⟩, fun b (eb : some 55 = some b) => ?_, fun (eb : some 55 = none) => by cases eb⟩, fun (c1 : gs_in (nI 0) 0 (nI 3) = 0) => absurd c1 hsh⟩)
  cases eb
  refine ⟨fun (c2 : ¬ I 55 0 = -1) => hC _ _ _ _ _ (c_min (hV _ _ _ _ _ _ _ ?_)), fun (c2 : I 55 0 = -1) => ?_⟩
  · rw [g0] at c2
    rw [if_neg (fun h => c2 (hneg.mp h))] at e
    subst e
    have em : gs_min (I 19 1) (I 55 1) = nI (min z n) := by
      rw [hb.1.1, hn, g1, oz]
      unfold gs_min
      by_cases h : z < n
      · rw [if_pos (nI_lt h (by omega)), show min z n = z by omega]
      · rw [if_neg (nI_nlt (by omega) (by omega)), show min z n = n by omega]
    rw [em]
    exact v1_pour_55 (d := d + 1) hn hn10 oz24 hT g2 hk (min z n) 0 I (by omega) ⟨gb_fr.rf _ _, hb⟩
  · rw [g0] at c2
    rw [if_pos (hneg.mpr c2)] at e
    subst e
    exact hk I (gb_fr.rf _ _) hb
theorem c1_mark_57 {p v : Int32} (hg : gh S Z R I) (ho : gh_ok S Z R) (hk : ∀ J, (∀ q, (q < 55 ∨ 62 < q) → J q = I q) → gh S Z (gs_mark S Z R (nI 1) p v).1 J → K (some (.int (gs_mark S Z R (nI 1) p v).2)) J (sx_run rw m ln)) : sx_C 88 (d + 3) [.ref 15, .int (nI 1), .int p, .int v] I (sx_run rw m ln) K := by
  have hsh : ¬ gs_in (nI 1) 0 (nI 3) = 0 := gs_in_c (by omega) (by omega)
  obtain ⟨g0, g1, g2⟩ := hg 1 (by omega)
  have g0 : I 57 0 = S 1 := g0
  have g1 : I 57 1 = Z 1 := g1
  obtain ⟨o0, ⟨z, oz, oz24⟩, o2⟩ := ho 1 (by omega)
  have hneg := gh_S ho (j := 1) (by omega)
  generalize e : gs_mark S Z R (nI 1) p v = g at hk
  unfold gs_mark at e
  rw [if_neg hsh, show (nI 1).toNatClampNeg = 1 from nI_clamp (by omega)] at e
  have bad : ∀ x, (R, x) = g → K (some (.int x)) I (sx_run rw m ln) := by
    intro x h; subst h; exact hk I (fun _ _ => rfl) hg
  have put : ∀ i y, i < 24 → (upd R (24 * 1 + i) y, nI 1) = g → K (some (.int (nI 1))) (sx_up I 58 (upd (I 58) i y)) (sx_run rw m ln) := by
    intro i y hi h
    subst h
    refine hk _ (fun q hq => sx_up_ne (by omega)) ?_
    show gh S Z (upd R (24 * 1 + i) y) _
    intro j hj
    by_cases ej : j = 1
    · subst ej
      refine ⟨by rw [sx_up_ne (by omega)]; exact (hg _ hj).1, by rw [sx_up_ne (by omega)]; exact (hg _ hj).2.1, fun i' hi' => ?_⟩
      show (sx_up I 58 (upd (I 58) i y)) 58 i' = _
      rw [sx_up_same]
      by_cases ei : i' = i
      · subst ei; rw [pk_us, pk_us]
      · rw [pk_un ei, pk_un (by omega)]; exact (hg _ hj).2.2 i' hi'
    · rw [sx_up_ne (by omega), sx_up_ne (by omega)]
      obtain ⟨q1, q2, q3⟩ := hg j hj
      exact ⟨q1, q2, fun i' hi' => by rw [pk_un (by omega)]; exact q3 i' hi'⟩
  refine sx_enter (by decide +kernel) (Nat.le_of_ble_eq_true rfl) (sx_go m88 100 rfl (fun VV CC hV hC => ?_))
  refine hC _ _ _ _ _ (c_isSheet1 ⟨fun _ => ⟨1, ⟨rfl, by omega⟩, fun b (eb : some 57 = some b) => ?_, fun (eb : some 57 = none) => by cases eb⟩, fun (c1 : gs_in (nI 1) 0 (nI 3) = 0) => absurd c1 hsh⟩)
  cases eb
  refine ⟨fun (c2 : ¬ I 57 0 = -1) => hC _ _ _ _ _ (c_isWithin ⟨fun (c3 : ¬ gs_in p (nI 0) (I 57 1 - nI 1) = 0) => ?_, fun (c3 : gs_in p (nI 0) (I 57 1 - nI 1) = 0) => bad _ ?_⟩), fun (c2 : I 57 0 = -1) => bad _ ?_⟩
  · rw [g0] at c2
    rw [g1] at c3
    rw [if_neg (fun h => c2 (hneg.mp h)), if_neg (show ¬ gs_in p 0 (Z 1 - nI 1) = 0 from c3)] at e
    obtain ⟨i, rfl, hi⟩ := gs_place oz (by omega) c3
    rw [nI_clamp (by omega)] at e
    refine ⟨fun (c4 : ¬ I 57 0 = 0) => ?_, fun (c4 : I 57 0 = 0) => ⟨fun (c5 : ¬ v = -1000000005) => ⟨i, ⟨rfl, by omega⟩, put i _ (by omega) ?_⟩, fun (c5 : v = -1000000005) => bad _ ?_⟩⟩
    · rw [g0] at c4
      have h1 : S 1 = nI 1 := (o0.resolve_left c2).resolve_left c4
      rw [if_neg (fun h => c4 h.1)] at e
      refine ⟨fun (c5 : v = -1000000005) => ⟨i, ⟨rfl, by omega⟩, put i _ (by omega) ?_⟩, fun (c5 : ¬ v = -1000000005) => hC _ _ _ _ _ (c_isWithin ⟨fun (c6 : ¬ gs_in v (-99999) (nI 99999) = 0) => ⟨i, ⟨rfl, by omega⟩, put i _ (by omega) ?_⟩, fun (c6 : gs_in v (-99999) (nI 99999) = 0) => bad _ ?_⟩)⟩
      · rw [if_neg (fun h => h.2.1 c5)] at e
        unfold gs_mkV at e
        rw [if_neg c4] at e
        exact e
      · rw [if_neg (fun h => c6 h.2.2)] at e
        unfold gs_mkV at e
        rw [if_neg c4] at e
        exact e
      · rw [if_pos ⟨h1, c5, c6⟩] at e; exact e
    · rw [g0] at c4
      rw [if_neg (fun h => c5 h.2), if_neg (fun h => by rw [c4] at h; exact absurd h.1 (by decide +kernel))] at e
      unfold gs_mkV at e
      rw [if_pos c4, gs_short] at e
      exact e
    · rw [g0] at c4
      rw [if_pos ⟨c4, c5⟩] at e; exact e
  · rw [g0] at c2
    rw [g1] at c3
    rw [if_neg (fun h => c2 (hneg.mp h)), if_pos (show gs_in p 0 (Z 1 - nI 1) = 0 from c3)] at e
    exact e
  · rw [g0] at c2
    rw [if_pos (hneg.mpr c2)] at e
    exact e
theorem v1_reads_57 {n z : Nat} (hb : gb 19 s I) (hn : s 0 = nI n) (hn10 : n ≤ 10) (hz : I 57 1 = nI z) (hz24 : z ≤ 24) (hg : ∀ i, i < 24 → I 58 i = R (24 * 1 + i)) (hk : K (some (.int (if gs_fst (gs_readF s R 1) z < z then nI (gs_fst (gs_readF s R 1) z) else -1000000005))) I (sx_run rw m ln)) :
    ∀ (r k : Nat) (I' : sx_I), k + r = z → (I' = I ∧ ∀ i, i < k → gs_readF s R 1 i = false) → sx_V 90 (d + 2) 0 0 K 30 [(0, .ref 15), (2, .ref 57), (3, .int (nI k))] [] I' (sx_run rw m ln) := by
  refine sx_for z (fun I' h => ?_) (fun k I' hkc h ih => ?_)
  · obtain ⟨rfl, hbef⟩ := h
    rw [gs_fst_none _ _ hbef, if_neg (Nat.lt_irrefl _)] at hk
    refine sx_go m90 60 rfl (fun VV CC hV hC => ?_)
    refine ⟨fun _ => hk, fun (c1 : ¬ I' 57 1 ≤ nI z) => ?_⟩
    exfalso; rw [hz] at c1; exact c1 (Int32.le_refl _)
  · obtain ⟨rfl, hbef⟩ := h
    have nxt : gs_readF s R 1 k = false → sx_V 90 (d + 2) 0 0 K 30 [(0, .ref 15), (2, .ref 57), (3, .int (nI k + nI 1))] [] I' (sx_run rw m ln) := by
      intro e
      have := ih I' ⟨rfl, fun i hi => by
        rcases Nat.lt_or_ge i k with q | q
        · exact hbef i q
        · have : i = k := by omega
          subst this; exact e⟩
      rw [nI_succ k] at this
      exact this
    have fin : gs_readF s R 1 k = true → K (some (.int (nI k))) I' (sx_run rw m ln) := by
      intro e
      rw [gs_fst_at _ z k hkc hbef e, if_pos hkc] at hk
      exact hk
    refine sx_go m90 60 rfl (fun VV CC hV hC => ?_)
    refine ⟨fun (c1 : I' 57 1 ≤ nI k) => ?_, fun _ => hC _ _ _ _ _ (c_isNum_57 rfl (by omega) (fun c2 => ⟨fun _ => hV _ _ _ _ _ _ _ (nxt ?_), fun (q : ¬ nI 0 = 0) => absurd rfl q⟩) (fun c2 => ⟨fun (q : nI 1 = 0) => absurd q (by decide +kernel), fun _ => ⟨fun (c3 : I' 19 1 ≤ nI k) => fin ?_, fun (c3 : ¬ I' 19 1 ≤ nI k) => ?_⟩⟩))⟩
    · exfalso; rw [hz] at c1; exact nI_ge hkc (by omega) c1
    · rw [hg k (by omega)] at c2
      exact decide_eq_false (fun h => h.1 c2)
    · rw [hg k (by omega)] at c2
      rw [hb.1.1] at c3
      exact decide_eq_true ⟨c2, Or.inl c3⟩
    · rw [hg k (by omega)] at c2
      rw [hb.1.1, hn, nI_leI (by omega) (by omega)] at c3
      have c4 : ¬ s 0 ≤ nI k := by rw [hn, nI_leI (by omega) (by omega)]; exact c3
      refine ⟨k, ⟨rfl, by omega⟩, k, ⟨rfl, by omega⟩, fun (c5 : I' 58 k = I' 21 k) => hV _ _ _ _ _ _ _ (nxt ?_), fun (c5 : ¬ I' 58 k = I' 21 k) => fin ?_⟩
      · rw [hg k (by omega), gb_post_19 hb (by omega)] at c5
        exact decide_eq_false (fun h => h.2.elim c4 (fun q => q c5))
      · rw [hg k (by omega), gb_post_19 hb (by omega)] at c5
        exact decide_eq_true ⟨c2, Or.inr c5⟩
theorem c1_reads_57 (hb : gb 19 s I) (hi : gs_inv s) (hg : gh S Z R I) (ho : gh_ok S Z R) (hk : K (some (.int (gs_reads s S Z R (nI 1)))) I (sx_run rw m ln)) : sx_C 90 (d + 3) [.ref 15, .int (nI 1)] I (sx_run rw m ln) K := by
  obtain ⟨⟨n, hn, hn10⟩, -⟩ := id hi
  have hsh : ¬ gs_in (nI 1) 0 (nI 3) = 0 := gs_in_c (by omega) (by omega)
  obtain ⟨g0, g1, g2⟩ := hg 1 (by omega)
  have g0 : I 57 0 = S 1 := g0
  have g1 : I 57 1 = Z 1 := g1
  obtain ⟨o0, ⟨z, oz, oz24⟩, o2⟩ := ho 1 (by omega)
  have hneg := gh_S ho (j := 1) (by omega)
  unfold gs_reads at hk
  rw [if_neg hsh, show (nI 1).toNatClampNeg = 1 from nI_clamp (by omega), oz, nI_clamp (by omega)] at hk
  refine sx_enter (by decide +kernel) (Nat.le_of_ble_eq_true rfl) (sx_go m90 100 rfl (fun VV CC hV hC => ?_))
  refine hC _ _ _ _ _ (c_isSheet1 ⟨fun _ => ⟨1, ⟨rfl, by omega⟩, fun b (eb : some 57 = some b) => ?_, fun (eb : some 57 = none) => by cases eb⟩, fun (c1 : gs_in (nI 1) 0 (nI 3) = 0) => absurd c1 hsh⟩)
  cases eb
  refine ⟨fun (c2 : ¬ I 57 0 = -1) => hV _ _ _ _ _ _ _ ?_, fun (c2 : I 57 0 = -1) => ?_⟩
  · rw [g0] at c2
    rw [if_neg (fun h => c2 (hneg.mp h))] at hk
    exact v1_reads_57 (d := d + 1) hb hn hn10 (g1.trans oz) oz24 g2 hk z 0 I (by omega) ⟨rfl, fun i hi => absurd hi (Nat.not_lt_zero i)⟩
  · rw [g0] at c2
    rw [if_pos (hneg.mpr c2)] at hk
    exact hk
theorem v1_pour_57 {n z : Nat} (hn : s 0 = nI n) (hn10 : n ≤ 10) (hz24 : z ≤ 24) (hT : gs_tn s) (hg : ∀ i, i < 24 → I 58 i = R (24 * 1 + i)) (hk : ∀ J, gb_fr 19 I J → gb 19 (gs_it (gs_pour1 R 1) (min z n) s) J → K (some (.int (gs_pourC R 1 s (min z n)))) J (sx_run rw m ln)) :
    ∀ (r k : Nat) (J : sx_I), k + r = min z n → (gb_fr 19 I J ∧ gb 19 (gs_it (gs_pour1 R 1) k s) J) → sx_V 89 (d + 3) 0 0 K 49 [(0, .ref 15), (2, .ref 57), (3, .int (gs_pourC R 1 s k)), (4, .int (nI (min z n))), (5, .int (nI k))] [] J (sx_run rw m ln) := by
  have hlo : ∀ k, k ≤ 10 → gs_lo s (gs_it (gs_pour1 R 1) k s) := fun k hk => gs_lo.it _ k (fun k' s hk' => gs_lo.set s k' 2 _ (by omega) (by omega))
  refine sx_for (min z n) (fun J h => ?_) (fun k J hkc h ih => ?_)
  · refine sx_go m89 60 rfl (fun VV CC hV hC => ?_)
    exact ⟨fun _ => hk J h.1 h.2, fun (c1 : ¬ nI (min z n) ≤ nI (min z n)) => absurd (Int32.le_refl _) c1⟩
  · obtain ⟨hf, hb⟩ := h
    have eR : J 58 k = R (24 * 1 + k) := by rw [hf 58 (by omega) (by omega)]; exact hg k (by omega)
    have fin : ∀ v, v = gs_pourV (gs_it (gs_pour1 R 1) k s) R 1 k → (J 22 k = v → sx_V 89 (d + 3) 0 0 K 49 [(0, .ref 15), (2, .ref 57), (3, .int (gs_pourC R 1 s k)), (4, .int (nI (min z n))), (5, .int (nI k + nI 1))] [] J (sx_run rw m ln)) ∧ (¬ J 22 k = v → sx_V 89 (d + 3) 0 0 K 49 [(0, .ref 15), (2, .ref 57), (3, .int (gs_pourC R 1 s k + nI 1)), (4, .int (nI (min z n))), (5, .int (nI k + nI 1))] [] (sx_up J 22 (upd (J 22) k v)) (sx_run rw m ln)) := by
      intro v hv
      rw [gb_wear_19 hb (by omega)]
      refine ⟨fun h => ?_, fun h => ?_⟩
      · have := ih J ⟨hf, by rw [gs_it, gs_pour1, ← hv, ← h]; unfold gs_set; rw [gs_upself]; exact hb⟩
        rw [nI_succ k, show gs_pourC R 1 s (k + 1) = gs_pourC R 1 s k by
          rw [gs_pourC, ← hv, if_pos h.symm]; exact Int32.add_zero _] at this
        exact this
      · have := ih (sx_up J 22 (upd (J 22) k v)) ⟨hf.tr (gb_fr.up J 22 _ (by omega) (by omega)), by rw [gs_it, gs_pour1, ← hv]; exact hb.set (w := 2) (by omega) (by omega) v ((hlo k (by omega)).tn hT)⟩
        rw [nI_succ k, show gs_pourC R 1 s (k + 1) = gs_pourC R 1 s k + nI 1 by
          rw [gs_pourC, ← hv, if_neg (fun q => h q.symm)]] at this
        exact this
    refine sx_go m89 60 rfl (fun VV CC hV hC => ?_)
    refine ⟨fun (c1 : nI (min z n) ≤ nI k) => absurd c1 (nI_ge hkc (by omega)), fun _ => hC _ _ _ _ _ (c_isNum_57 rfl (by omega) (fun c2 => ⟨fun _ => ⟨k, ⟨rfl, by omega⟩, k, ⟨rfl, by omega⟩, fun _ => hV _ _ _ _ _ _ _ ((fin (J 22 k) ?_).1 rfl), fun (q : ¬ J 22 k = J 22 k) => absurd rfl q⟩, fun (q : ¬ nI 0 = 0) => absurd rfl q⟩) (fun c2 => ⟨fun (q : nI 1 = 0) => absurd q (by decide +kernel), fun _ => ⟨k, ⟨rfl, by omega⟩, hC _ _ _ _ _ (c_held ⟨k, ⟨rfl, by omega⟩, fun (c3 : J 22 k = gs_wi (J 58 k) (nI 99)) => hV _ _ _ _ _ _ _ ((fin _ ?_).1 c3), fun (c3 : ¬ J 22 k = gs_wi (J 58 k) (nI 99)) => ⟨k, ⟨rfl, by omega⟩, hV _ _ _ _ _ _ _ ((fin _ ?_).2 c3)⟩⟩)⟩⟩))⟩
    · rw [eR] at c2
      unfold gs_pourV
      rw [if_pos c2, gb_wear_19 hb (by omega)]
    · rw [eR] at c2 ⊢
      unfold gs_pourV
      rw [if_neg c2]
    · rw [eR] at c2 ⊢
      unfold gs_pourV
      rw [if_neg c2]
theorem c1_pour_57 (hb : gb 19 s I) (hi : gs_inv s) (hT : gs_tn s) (hg : gh S Z R I) (ho : gh_ok S Z R) (hk : ∀ J, gb_fr 19 I J → gb 19 (gs_pour s S Z R (nI 1)).1 J → K (some (.int (gs_pour s S Z R (nI 1)).2)) J (sx_run rw m ln)) : sx_C 89 (d + 4) [.ref 15, .int (nI 1)] I (sx_run rw m ln) K := by
  obtain ⟨⟨n, hn, hn10⟩, -⟩ := id hi
  have hsh : ¬ gs_in (nI 1) 0 (nI 3) = 0 := gs_in_c (by omega) (by omega)
  obtain ⟨g0, g1, g2⟩ := hg 1 (by omega)
  have g0 : I 57 0 = S 1 := g0
  have g1 : I 57 1 = Z 1 := g1
  obtain ⟨o0, ⟨z, oz, oz24⟩, o2⟩ := ho 1 (by omega)
  have hneg := gh_S ho (j := 1) (by omega)
  generalize e : gs_pour s S Z R (nI 1) = g at hk
  unfold gs_pour at e
  rw [if_neg hsh, show (nI 1).toNatClampNeg = 1 from nI_clamp (by omega), oz, nI_clamp (by omega), gs_N_eq hn hn10] at e
  refine sx_enter (by decide +kernel) (Nat.le_of_ble_eq_true rfl) (sx_go m89 100 rfl (fun VV CC hV hC => ?_))
  refine hC _ _ _ _ _ (c_isSheet1 ⟨fun _ => ⟨1, ⟨rfl, by omega⟩, fun b (eb : some 57 = some b) => ?_, fun (eb : some 57 = none) => by cases eb⟩, fun (c1 : gs_in (nI 1) 0 (nI 3) = 0) => absurd c1 hsh⟩)
  cases eb
  refine ⟨fun (c2 : ¬ I 57 0 = -1) => hC _ _ _ _ _ (c_min (hV _ _ _ _ _ _ _ ?_)), fun (c2 : I 57 0 = -1) => ?_⟩
  · rw [g0] at c2
    rw [if_neg (fun h => c2 (hneg.mp h))] at e
    subst e
    have em : gs_min (I 19 1) (I 57 1) = nI (min z n) := by
      rw [hb.1.1, hn, g1, oz]
      unfold gs_min
      by_cases h : z < n
      · rw [if_pos (nI_lt h (by omega)), show min z n = z by omega]
      · rw [if_neg (nI_nlt (by omega) (by omega)), show min z n = n by omega]
    rw [em]
    exact v1_pour_57 (d := d + 1) hn hn10 oz24 hT g2 hk (min z n) 0 I (by omega) ⟨gb_fr.rf _ _, hb⟩
  · rw [g0] at c2
    rw [if_pos (hneg.mpr c2)] at e
    subst e
    exact hk I (gb_fr.rf _ _) hb
theorem c1_mark_59 {p v : Int32} (hg : gh S Z R I) (ho : gh_ok S Z R) (hk : ∀ J, (∀ q, (q < 55 ∨ 62 < q) → J q = I q) → gh S Z (gs_mark S Z R (nI 2) p v).1 J → K (some (.int (gs_mark S Z R (nI 2) p v).2)) J (sx_run rw m ln)) : sx_C 88 (d + 3) [.ref 15, .int (nI 2), .int p, .int v] I (sx_run rw m ln) K := by
  have hsh : ¬ gs_in (nI 2) 0 (nI 3) = 0 := gs_in_c (by omega) (by omega)
  obtain ⟨g0, g1, g2⟩ := hg 2 (by omega)
  have g0 : I 59 0 = S 2 := g0
  have g1 : I 59 1 = Z 2 := g1
  obtain ⟨o0, ⟨z, oz, oz24⟩, o2⟩ := ho 2 (by omega)
  have hneg := gh_S ho (j := 2) (by omega)
  generalize e : gs_mark S Z R (nI 2) p v = g at hk
  unfold gs_mark at e
  rw [if_neg hsh, show (nI 2).toNatClampNeg = 2 from nI_clamp (by omega)] at e
  have bad : ∀ x, (R, x) = g → K (some (.int x)) I (sx_run rw m ln) := by
    intro x h; subst h; exact hk I (fun _ _ => rfl) hg
  have put : ∀ i y, i < 24 → (upd R (24 * 2 + i) y, nI 1) = g → K (some (.int (nI 1))) (sx_up I 60 (upd (I 60) i y)) (sx_run rw m ln) := by
    intro i y hi h
    subst h
    refine hk _ (fun q hq => sx_up_ne (by omega)) ?_
    show gh S Z (upd R (24 * 2 + i) y) _
    intro j hj
    by_cases ej : j = 2
    · subst ej
      refine ⟨by rw [sx_up_ne (by omega)]; exact (hg _ hj).1, by rw [sx_up_ne (by omega)]; exact (hg _ hj).2.1, fun i' hi' => ?_⟩
      show (sx_up I 60 (upd (I 60) i y)) 60 i' = _
      rw [sx_up_same]
      by_cases ei : i' = i
      · subst ei; rw [pk_us, pk_us]
      · rw [pk_un ei, pk_un (by omega)]; exact (hg _ hj).2.2 i' hi'
    · rw [sx_up_ne (by omega), sx_up_ne (by omega)]
      obtain ⟨q1, q2, q3⟩ := hg j hj
      exact ⟨q1, q2, fun i' hi' => by rw [pk_un (by omega)]; exact q3 i' hi'⟩
  refine sx_enter (by decide +kernel) (Nat.le_of_ble_eq_true rfl) (sx_go m88 100 rfl (fun VV CC hV hC => ?_))
  refine hC _ _ _ _ _ (c_isSheet1 ⟨fun _ => ⟨2, ⟨rfl, by omega⟩, fun b (eb : some 59 = some b) => ?_, fun (eb : some 59 = none) => by cases eb⟩, fun (c1 : gs_in (nI 2) 0 (nI 3) = 0) => absurd c1 hsh⟩)
  cases eb
  refine ⟨fun (c2 : ¬ I 59 0 = -1) => hC _ _ _ _ _ (c_isWithin ⟨fun (c3 : ¬ gs_in p (nI 0) (I 59 1 - nI 1) = 0) => ?_, fun (c3 : gs_in p (nI 0) (I 59 1 - nI 1) = 0) => bad _ ?_⟩), fun (c2 : I 59 0 = -1) => bad _ ?_⟩
  · rw [g0] at c2
    rw [g1] at c3
    rw [if_neg (fun h => c2 (hneg.mp h)), if_neg (show ¬ gs_in p 0 (Z 2 - nI 1) = 0 from c3)] at e
    obtain ⟨i, rfl, hi⟩ := gs_place oz (by omega) c3
    rw [nI_clamp (by omega)] at e
    refine ⟨fun (c4 : ¬ I 59 0 = 0) => ?_, fun (c4 : I 59 0 = 0) => ⟨fun (c5 : ¬ v = -1000000005) => ⟨i, ⟨rfl, by omega⟩, put i _ (by omega) ?_⟩, fun (c5 : v = -1000000005) => bad _ ?_⟩⟩
    · rw [g0] at c4
      have h1 : S 2 = nI 1 := (o0.resolve_left c2).resolve_left c4
      rw [if_neg (fun h => c4 h.1)] at e
      refine ⟨fun (c5 : v = -1000000005) => ⟨i, ⟨rfl, by omega⟩, put i _ (by omega) ?_⟩, fun (c5 : ¬ v = -1000000005) => hC _ _ _ _ _ (c_isWithin ⟨fun (c6 : ¬ gs_in v (-99999) (nI 99999) = 0) => ⟨i, ⟨rfl, by omega⟩, put i _ (by omega) ?_⟩, fun (c6 : gs_in v (-99999) (nI 99999) = 0) => bad _ ?_⟩)⟩
      · rw [if_neg (fun h => h.2.1 c5)] at e
        unfold gs_mkV at e
        rw [if_neg c4] at e
        exact e
      · rw [if_neg (fun h => c6 h.2.2)] at e
        unfold gs_mkV at e
        rw [if_neg c4] at e
        exact e
      · rw [if_pos ⟨h1, c5, c6⟩] at e; exact e
    · rw [g0] at c4
      rw [if_neg (fun h => c5 h.2), if_neg (fun h => by rw [c4] at h; exact absurd h.1 (by decide +kernel))] at e
      unfold gs_mkV at e
      rw [if_pos c4, gs_short] at e
      exact e
    · rw [g0] at c4
      rw [if_pos ⟨c4, c5⟩] at e; exact e
  · rw [g0] at c2
    rw [g1] at c3
    rw [if_neg (fun h => c2 (hneg.mp h)), if_pos (show gs_in p 0 (Z 2 - nI 1) = 0 from c3)] at e
    exact e
  · rw [g0] at c2
    rw [if_pos (hneg.mpr c2)] at e
    exact e
theorem v1_reads_59 {n z : Nat} (hb : gb 19 s I) (hn : s 0 = nI n) (hn10 : n ≤ 10) (hz : I 59 1 = nI z) (hz24 : z ≤ 24) (hg : ∀ i, i < 24 → I 60 i = R (24 * 2 + i)) (hk : K (some (.int (if gs_fst (gs_readF s R 2) z < z then nI (gs_fst (gs_readF s R 2) z) else -1000000005))) I (sx_run rw m ln)) :
    ∀ (r k : Nat) (I' : sx_I), k + r = z → (I' = I ∧ ∀ i, i < k → gs_readF s R 2 i = false) → sx_V 90 (d + 2) 0 0 K 30 [(0, .ref 15), (2, .ref 59), (3, .int (nI k))] [] I' (sx_run rw m ln) := by
  refine sx_for z (fun I' h => ?_) (fun k I' hkc h ih => ?_)
  · obtain ⟨rfl, hbef⟩ := h
    rw [gs_fst_none _ _ hbef, if_neg (Nat.lt_irrefl _)] at hk
    refine sx_go m90 60 rfl (fun VV CC hV hC => ?_)
    refine ⟨fun _ => hk, fun (c1 : ¬ I' 59 1 ≤ nI z) => ?_⟩
    exfalso; rw [hz] at c1; exact c1 (Int32.le_refl _)
  · obtain ⟨rfl, hbef⟩ := h
    have nxt : gs_readF s R 2 k = false → sx_V 90 (d + 2) 0 0 K 30 [(0, .ref 15), (2, .ref 59), (3, .int (nI k + nI 1))] [] I' (sx_run rw m ln) := by
      intro e
      have := ih I' ⟨rfl, fun i hi => by
        rcases Nat.lt_or_ge i k with q | q
        · exact hbef i q
        · have : i = k := by omega
          subst this; exact e⟩
      rw [nI_succ k] at this
      exact this
    have fin : gs_readF s R 2 k = true → K (some (.int (nI k))) I' (sx_run rw m ln) := by
      intro e
      rw [gs_fst_at _ z k hkc hbef e, if_pos hkc] at hk
      exact hk
    refine sx_go m90 60 rfl (fun VV CC hV hC => ?_)
    refine ⟨fun (c1 : I' 59 1 ≤ nI k) => ?_, fun _ => hC _ _ _ _ _ (c_isNum_59 rfl (by omega) (fun c2 => ⟨fun _ => hV _ _ _ _ _ _ _ (nxt ?_), fun (q : ¬ nI 0 = 0) => absurd rfl q⟩) (fun c2 => ⟨fun (q : nI 1 = 0) => absurd q (by decide +kernel), fun _ => ⟨fun (c3 : I' 19 1 ≤ nI k) => fin ?_, fun (c3 : ¬ I' 19 1 ≤ nI k) => ?_⟩⟩))⟩
    · exfalso; rw [hz] at c1; exact nI_ge hkc (by omega) c1
    · rw [hg k (by omega)] at c2
      exact decide_eq_false (fun h => h.1 c2)
    · rw [hg k (by omega)] at c2
      rw [hb.1.1] at c3
      exact decide_eq_true ⟨c2, Or.inl c3⟩
    · rw [hg k (by omega)] at c2
      rw [hb.1.1, hn, nI_leI (by omega) (by omega)] at c3
      have c4 : ¬ s 0 ≤ nI k := by rw [hn, nI_leI (by omega) (by omega)]; exact c3
      refine ⟨k, ⟨rfl, by omega⟩, k, ⟨rfl, by omega⟩, fun (c5 : I' 60 k = I' 21 k) => hV _ _ _ _ _ _ _ (nxt ?_), fun (c5 : ¬ I' 60 k = I' 21 k) => fin ?_⟩
      · rw [hg k (by omega), gb_post_19 hb (by omega)] at c5
        exact decide_eq_false (fun h => h.2.elim c4 (fun q => q c5))
      · rw [hg k (by omega), gb_post_19 hb (by omega)] at c5
        exact decide_eq_true ⟨c2, Or.inr c5⟩
theorem c1_reads_59 (hb : gb 19 s I) (hi : gs_inv s) (hg : gh S Z R I) (ho : gh_ok S Z R) (hk : K (some (.int (gs_reads s S Z R (nI 2)))) I (sx_run rw m ln)) : sx_C 90 (d + 3) [.ref 15, .int (nI 2)] I (sx_run rw m ln) K := by
  obtain ⟨⟨n, hn, hn10⟩, -⟩ := id hi
  have hsh : ¬ gs_in (nI 2) 0 (nI 3) = 0 := gs_in_c (by omega) (by omega)
  obtain ⟨g0, g1, g2⟩ := hg 2 (by omega)
  have g0 : I 59 0 = S 2 := g0
  have g1 : I 59 1 = Z 2 := g1
  obtain ⟨o0, ⟨z, oz, oz24⟩, o2⟩ := ho 2 (by omega)
  have hneg := gh_S ho (j := 2) (by omega)
  unfold gs_reads at hk
  rw [if_neg hsh, show (nI 2).toNatClampNeg = 2 from nI_clamp (by omega), oz, nI_clamp (by omega)] at hk
  refine sx_enter (by decide +kernel) (Nat.le_of_ble_eq_true rfl) (sx_go m90 100 rfl (fun VV CC hV hC => ?_))
  refine hC _ _ _ _ _ (c_isSheet1 ⟨fun _ => ⟨2, ⟨rfl, by omega⟩, fun b (eb : some 59 = some b) => ?_, fun (eb : some 59 = none) => by cases eb⟩, fun (c1 : gs_in (nI 2) 0 (nI 3) = 0) => absurd c1 hsh⟩)
  cases eb
  refine ⟨fun (c2 : ¬ I 59 0 = -1) => hV _ _ _ _ _ _ _ ?_, fun (c2 : I 59 0 = -1) => ?_⟩
  · rw [g0] at c2
    rw [if_neg (fun h => c2 (hneg.mp h))] at hk
    exact v1_reads_59 (d := d + 1) hb hn hn10 (g1.trans oz) oz24 g2 hk z 0 I (by omega) ⟨rfl, fun i hi => absurd hi (Nat.not_lt_zero i)⟩
  · rw [g0] at c2
    rw [if_pos (hneg.mpr c2)] at hk
    exact hk
theorem v1_pour_59 {n z : Nat} (hn : s 0 = nI n) (hn10 : n ≤ 10) (hz24 : z ≤ 24) (hT : gs_tn s) (hg : ∀ i, i < 24 → I 60 i = R (24 * 2 + i)) (hk : ∀ J, gb_fr 19 I J → gb 19 (gs_it (gs_pour1 R 2) (min z n) s) J → K (some (.int (gs_pourC R 2 s (min z n)))) J (sx_run rw m ln)) :
    ∀ (r k : Nat) (J : sx_I), k + r = min z n → (gb_fr 19 I J ∧ gb 19 (gs_it (gs_pour1 R 2) k s) J) → sx_V 89 (d + 3) 0 0 K 49 [(0, .ref 15), (2, .ref 59), (3, .int (gs_pourC R 2 s k)), (4, .int (nI (min z n))), (5, .int (nI k))] [] J (sx_run rw m ln) := by
  have hlo : ∀ k, k ≤ 10 → gs_lo s (gs_it (gs_pour1 R 2) k s) := fun k hk => gs_lo.it _ k (fun k' s hk' => gs_lo.set s k' 2 _ (by omega) (by omega))
  refine sx_for (min z n) (fun J h => ?_) (fun k J hkc h ih => ?_)
  · refine sx_go m89 60 rfl (fun VV CC hV hC => ?_)
    exact ⟨fun _ => hk J h.1 h.2, fun (c1 : ¬ nI (min z n) ≤ nI (min z n)) => absurd (Int32.le_refl _) c1⟩
  · obtain ⟨hf, hb⟩ := h
    have eR : J 60 k = R (24 * 2 + k) := by rw [hf 60 (by omega) (by omega)]; exact hg k (by omega)
    have fin : ∀ v, v = gs_pourV (gs_it (gs_pour1 R 2) k s) R 2 k → (J 22 k = v → sx_V 89 (d + 3) 0 0 K 49 [(0, .ref 15), (2, .ref 59), (3, .int (gs_pourC R 2 s k)), (4, .int (nI (min z n))), (5, .int (nI k + nI 1))] [] J (sx_run rw m ln)) ∧ (¬ J 22 k = v → sx_V 89 (d + 3) 0 0 K 49 [(0, .ref 15), (2, .ref 59), (3, .int (gs_pourC R 2 s k + nI 1)), (4, .int (nI (min z n))), (5, .int (nI k + nI 1))] [] (sx_up J 22 (upd (J 22) k v)) (sx_run rw m ln)) := by
      intro v hv
      rw [gb_wear_19 hb (by omega)]
      refine ⟨fun h => ?_, fun h => ?_⟩
      · have := ih J ⟨hf, by rw [gs_it, gs_pour1, ← hv, ← h]; unfold gs_set; rw [gs_upself]; exact hb⟩
        rw [nI_succ k, show gs_pourC R 2 s (k + 1) = gs_pourC R 2 s k by
          rw [gs_pourC, ← hv, if_pos h.symm]; exact Int32.add_zero _] at this
        exact this
      · have := ih (sx_up J 22 (upd (J 22) k v)) ⟨hf.tr (gb_fr.up J 22 _ (by omega) (by omega)), by rw [gs_it, gs_pour1, ← hv]; exact hb.set (w := 2) (by omega) (by omega) v ((hlo k (by omega)).tn hT)⟩
        rw [nI_succ k, show gs_pourC R 2 s (k + 1) = gs_pourC R 2 s k + nI 1 by
          rw [gs_pourC, ← hv, if_neg (fun q => h q.symm)]] at this
        exact this
    refine sx_go m89 60 rfl (fun VV CC hV hC => ?_)
    refine ⟨fun (c1 : nI (min z n) ≤ nI k) => absurd c1 (nI_ge hkc (by omega)), fun _ => hC _ _ _ _ _ (c_isNum_59 rfl (by omega) (fun c2 => ⟨fun _ => ⟨k, ⟨rfl, by omega⟩, k, ⟨rfl, by omega⟩, fun _ => hV _ _ _ _ _ _ _ ((fin (J 22 k) ?_).1 rfl), fun (q : ¬ J 22 k = J 22 k) => absurd rfl q⟩, fun (q : ¬ nI 0 = 0) => absurd rfl q⟩) (fun c2 => ⟨fun (q : nI 1 = 0) => absurd q (by decide +kernel), fun _ => ⟨k, ⟨rfl, by omega⟩, hC _ _ _ _ _ (c_held ⟨k, ⟨rfl, by omega⟩, fun (c3 : J 22 k = gs_wi (J 60 k) (nI 99)) => hV _ _ _ _ _ _ _ ((fin _ ?_).1 c3), fun (c3 : ¬ J 22 k = gs_wi (J 60 k) (nI 99)) => ⟨k, ⟨rfl, by omega⟩, hV _ _ _ _ _ _ _ ((fin _ ?_).2 c3)⟩⟩)⟩⟩))⟩
    · rw [eR] at c2
      unfold gs_pourV
      rw [if_pos c2, gb_wear_19 hb (by omega)]
    · rw [eR] at c2 ⊢
      unfold gs_pourV
      rw [if_neg c2]
    · rw [eR] at c2 ⊢
      unfold gs_pourV
      rw [if_neg c2]
theorem c1_pour_59 (hb : gb 19 s I) (hi : gs_inv s) (hT : gs_tn s) (hg : gh S Z R I) (ho : gh_ok S Z R) (hk : ∀ J, gb_fr 19 I J → gb 19 (gs_pour s S Z R (nI 2)).1 J → K (some (.int (gs_pour s S Z R (nI 2)).2)) J (sx_run rw m ln)) : sx_C 89 (d + 4) [.ref 15, .int (nI 2)] I (sx_run rw m ln) K := by
  obtain ⟨⟨n, hn, hn10⟩, -⟩ := id hi
  have hsh : ¬ gs_in (nI 2) 0 (nI 3) = 0 := gs_in_c (by omega) (by omega)
  obtain ⟨g0, g1, g2⟩ := hg 2 (by omega)
  have g0 : I 59 0 = S 2 := g0
  have g1 : I 59 1 = Z 2 := g1
  obtain ⟨o0, ⟨z, oz, oz24⟩, o2⟩ := ho 2 (by omega)
  have hneg := gh_S ho (j := 2) (by omega)
  generalize e : gs_pour s S Z R (nI 2) = g at hk
  unfold gs_pour at e
  rw [if_neg hsh, show (nI 2).toNatClampNeg = 2 from nI_clamp (by omega), oz, nI_clamp (by omega), gs_N_eq hn hn10] at e
  refine sx_enter (by decide +kernel) (Nat.le_of_ble_eq_true rfl) (sx_go m89 100 rfl (fun VV CC hV hC => ?_))
  refine hC _ _ _ _ _ (c_isSheet1 ⟨fun _ => ⟨2, ⟨rfl, by omega⟩, fun b (eb : some 59 = some b) => ?_, fun (eb : some 59 = none) => by cases eb⟩, fun (c1 : gs_in (nI 2) 0 (nI 3) = 0) => absurd c1 hsh⟩)
  cases eb
  refine ⟨fun (c2 : ¬ I 59 0 = -1) => hC _ _ _ _ _ (c_min (hV _ _ _ _ _ _ _ ?_)), fun (c2 : I 59 0 = -1) => ?_⟩
  · rw [g0] at c2
    rw [if_neg (fun h => c2 (hneg.mp h))] at e
    subst e
    have em : gs_min (I 19 1) (I 59 1) = nI (min z n) := by
      rw [hb.1.1, hn, g1, oz]
      unfold gs_min
      by_cases h : z < n
      · rw [if_pos (nI_lt h (by omega)), show min z n = z by omega]
      · rw [if_neg (nI_nlt (by omega) (by omega)), show min z n = n by omega]
    rw [em]
    exact v1_pour_59 (d := d + 1) hn hn10 oz24 hT g2 hk (min z n) 0 I (by omega) ⟨gb_fr.rf _ _, hb⟩
  · rw [g0] at c2
    rw [if_pos (hneg.mpr c2)] at e
    subst e
    exact hk I (gb_fr.rf _ _) hb
theorem c1_mark_61 {p v : Int32} (hg : gh S Z R I) (ho : gh_ok S Z R) (hk : ∀ J, (∀ q, (q < 55 ∨ 62 < q) → J q = I q) → gh S Z (gs_mark S Z R (nI 3) p v).1 J → K (some (.int (gs_mark S Z R (nI 3) p v).2)) J (sx_run rw m ln)) : sx_C 88 (d + 3) [.ref 15, .int (nI 3), .int p, .int v] I (sx_run rw m ln) K := by
  have hsh : ¬ gs_in (nI 3) 0 (nI 3) = 0 := gs_in_c (by omega) (by omega)
  obtain ⟨g0, g1, g2⟩ := hg 3 (by omega)
  have g0 : I 61 0 = S 3 := g0
  have g1 : I 61 1 = Z 3 := g1
  obtain ⟨o0, ⟨z, oz, oz24⟩, o2⟩ := ho 3 (by omega)
  have hneg := gh_S ho (j := 3) (by omega)
  generalize e : gs_mark S Z R (nI 3) p v = g at hk
  unfold gs_mark at e
  rw [if_neg hsh, show (nI 3).toNatClampNeg = 3 from nI_clamp (by omega)] at e
  have bad : ∀ x, (R, x) = g → K (some (.int x)) I (sx_run rw m ln) := by
    intro x h; subst h; exact hk I (fun _ _ => rfl) hg
  have put : ∀ i y, i < 24 → (upd R (24 * 3 + i) y, nI 1) = g → K (some (.int (nI 1))) (sx_up I 62 (upd (I 62) i y)) (sx_run rw m ln) := by
    intro i y hi h
    subst h
    refine hk _ (fun q hq => sx_up_ne (by omega)) ?_
    show gh S Z (upd R (24 * 3 + i) y) _
    intro j hj
    by_cases ej : j = 3
    · subst ej
      refine ⟨by rw [sx_up_ne (by omega)]; exact (hg _ hj).1, by rw [sx_up_ne (by omega)]; exact (hg _ hj).2.1, fun i' hi' => ?_⟩
      show (sx_up I 62 (upd (I 62) i y)) 62 i' = _
      rw [sx_up_same]
      by_cases ei : i' = i
      · subst ei; rw [pk_us, pk_us]
      · rw [pk_un ei, pk_un (by omega)]; exact (hg _ hj).2.2 i' hi'
    · rw [sx_up_ne (by omega), sx_up_ne (by omega)]
      obtain ⟨q1, q2, q3⟩ := hg j hj
      exact ⟨q1, q2, fun i' hi' => by rw [pk_un (by omega)]; exact q3 i' hi'⟩
  refine sx_enter (by decide +kernel) (Nat.le_of_ble_eq_true rfl) (sx_go m88 100 rfl (fun VV CC hV hC => ?_))
  refine hC _ _ _ _ _ (c_isSheet1 ⟨fun _ => ⟨3, ⟨rfl, by omega⟩, fun b (eb : some 61 = some b) => ?_, fun (eb : some 61 = none) => by cases eb⟩, fun (c1 : gs_in (nI 3) 0 (nI 3) = 0) => absurd c1 hsh⟩)
  cases eb
  refine ⟨fun (c2 : ¬ I 61 0 = -1) => hC _ _ _ _ _ (c_isWithin ⟨fun (c3 : ¬ gs_in p (nI 0) (I 61 1 - nI 1) = 0) => ?_, fun (c3 : gs_in p (nI 0) (I 61 1 - nI 1) = 0) => bad _ ?_⟩), fun (c2 : I 61 0 = -1) => bad _ ?_⟩
  · rw [g0] at c2
    rw [g1] at c3
    rw [if_neg (fun h => c2 (hneg.mp h)), if_neg (show ¬ gs_in p 0 (Z 3 - nI 1) = 0 from c3)] at e
    obtain ⟨i, rfl, hi⟩ := gs_place oz (by omega) c3
    rw [nI_clamp (by omega)] at e
    refine ⟨fun (c4 : ¬ I 61 0 = 0) => ?_, fun (c4 : I 61 0 = 0) => ⟨fun (c5 : ¬ v = -1000000005) => ⟨i, ⟨rfl, by omega⟩, put i _ (by omega) ?_⟩, fun (c5 : v = -1000000005) => bad _ ?_⟩⟩
    · rw [g0] at c4
      have h1 : S 3 = nI 1 := (o0.resolve_left c2).resolve_left c4
      rw [if_neg (fun h => c4 h.1)] at e
      refine ⟨fun (c5 : v = -1000000005) => ⟨i, ⟨rfl, by omega⟩, put i _ (by omega) ?_⟩, fun (c5 : ¬ v = -1000000005) => hC _ _ _ _ _ (c_isWithin ⟨fun (c6 : ¬ gs_in v (-99999) (nI 99999) = 0) => ⟨i, ⟨rfl, by omega⟩, put i _ (by omega) ?_⟩, fun (c6 : gs_in v (-99999) (nI 99999) = 0) => bad _ ?_⟩)⟩
      · rw [if_neg (fun h => h.2.1 c5)] at e
        unfold gs_mkV at e
        rw [if_neg c4] at e
        exact e
      · rw [if_neg (fun h => c6 h.2.2)] at e
        unfold gs_mkV at e
        rw [if_neg c4] at e
        exact e
      · rw [if_pos ⟨h1, c5, c6⟩] at e; exact e
    · rw [g0] at c4
      rw [if_neg (fun h => c5 h.2), if_neg (fun h => by rw [c4] at h; exact absurd h.1 (by decide +kernel))] at e
      unfold gs_mkV at e
      rw [if_pos c4, gs_short] at e
      exact e
    · rw [g0] at c4
      rw [if_pos ⟨c4, c5⟩] at e; exact e
  · rw [g0] at c2
    rw [g1] at c3
    rw [if_neg (fun h => c2 (hneg.mp h)), if_pos (show gs_in p 0 (Z 3 - nI 1) = 0 from c3)] at e
    exact e
  · rw [g0] at c2
    rw [if_pos (hneg.mpr c2)] at e
    exact e
theorem v1_reads_61 {n z : Nat} (hb : gb 19 s I) (hn : s 0 = nI n) (hn10 : n ≤ 10) (hz : I 61 1 = nI z) (hz24 : z ≤ 24) (hg : ∀ i, i < 24 → I 62 i = R (24 * 3 + i)) (hk : K (some (.int (if gs_fst (gs_readF s R 3) z < z then nI (gs_fst (gs_readF s R 3) z) else -1000000005))) I (sx_run rw m ln)) :
    ∀ (r k : Nat) (I' : sx_I), k + r = z → (I' = I ∧ ∀ i, i < k → gs_readF s R 3 i = false) → sx_V 90 (d + 2) 0 0 K 30 [(0, .ref 15), (2, .ref 61), (3, .int (nI k))] [] I' (sx_run rw m ln) := by
  refine sx_for z (fun I' h => ?_) (fun k I' hkc h ih => ?_)
  · obtain ⟨rfl, hbef⟩ := h
    rw [gs_fst_none _ _ hbef, if_neg (Nat.lt_irrefl _)] at hk
    refine sx_go m90 60 rfl (fun VV CC hV hC => ?_)
    refine ⟨fun _ => hk, fun (c1 : ¬ I' 61 1 ≤ nI z) => ?_⟩
    exfalso; rw [hz] at c1; exact c1 (Int32.le_refl _)
  · obtain ⟨rfl, hbef⟩ := h
    have nxt : gs_readF s R 3 k = false → sx_V 90 (d + 2) 0 0 K 30 [(0, .ref 15), (2, .ref 61), (3, .int (nI k + nI 1))] [] I' (sx_run rw m ln) := by
      intro e
      have := ih I' ⟨rfl, fun i hi => by
        rcases Nat.lt_or_ge i k with q | q
        · exact hbef i q
        · have : i = k := by omega
          subst this; exact e⟩
      rw [nI_succ k] at this
      exact this
    have fin : gs_readF s R 3 k = true → K (some (.int (nI k))) I' (sx_run rw m ln) := by
      intro e
      rw [gs_fst_at _ z k hkc hbef e, if_pos hkc] at hk
      exact hk
    refine sx_go m90 60 rfl (fun VV CC hV hC => ?_)
    refine ⟨fun (c1 : I' 61 1 ≤ nI k) => ?_, fun _ => hC _ _ _ _ _ (c_isNum_61 rfl (by omega) (fun c2 => ⟨fun _ => hV _ _ _ _ _ _ _ (nxt ?_), fun (q : ¬ nI 0 = 0) => absurd rfl q⟩) (fun c2 => ⟨fun (q : nI 1 = 0) => absurd q (by decide +kernel), fun _ => ⟨fun (c3 : I' 19 1 ≤ nI k) => fin ?_, fun (c3 : ¬ I' 19 1 ≤ nI k) => ?_⟩⟩))⟩
    · exfalso; rw [hz] at c1; exact nI_ge hkc (by omega) c1
    · rw [hg k (by omega)] at c2
      exact decide_eq_false (fun h => h.1 c2)
    · rw [hg k (by omega)] at c2
      rw [hb.1.1] at c3
      exact decide_eq_true ⟨c2, Or.inl c3⟩
    · rw [hg k (by omega)] at c2
      rw [hb.1.1, hn, nI_leI (by omega) (by omega)] at c3
      have c4 : ¬ s 0 ≤ nI k := by rw [hn, nI_leI (by omega) (by omega)]; exact c3
      refine ⟨k, ⟨rfl, by omega⟩, k, ⟨rfl, by omega⟩, fun (c5 : I' 62 k = I' 21 k) => hV _ _ _ _ _ _ _ (nxt ?_), fun (c5 : ¬ I' 62 k = I' 21 k) => fin ?_⟩
      · rw [hg k (by omega), gb_post_19 hb (by omega)] at c5
        exact decide_eq_false (fun h => h.2.elim c4 (fun q => q c5))
      · rw [hg k (by omega), gb_post_19 hb (by omega)] at c5
        exact decide_eq_true ⟨c2, Or.inr c5⟩
theorem c1_reads_61 (hb : gb 19 s I) (hi : gs_inv s) (hg : gh S Z R I) (ho : gh_ok S Z R) (hk : K (some (.int (gs_reads s S Z R (nI 3)))) I (sx_run rw m ln)) : sx_C 90 (d + 3) [.ref 15, .int (nI 3)] I (sx_run rw m ln) K := by
  obtain ⟨⟨n, hn, hn10⟩, -⟩ := id hi
  have hsh : ¬ gs_in (nI 3) 0 (nI 3) = 0 := gs_in_c (by omega) (by omega)
  obtain ⟨g0, g1, g2⟩ := hg 3 (by omega)
  have g0 : I 61 0 = S 3 := g0
  have g1 : I 61 1 = Z 3 := g1
  obtain ⟨o0, ⟨z, oz, oz24⟩, o2⟩ := ho 3 (by omega)
  have hneg := gh_S ho (j := 3) (by omega)
  unfold gs_reads at hk
  rw [if_neg hsh, show (nI 3).toNatClampNeg = 3 from nI_clamp (by omega), oz, nI_clamp (by omega)] at hk
  refine sx_enter (by decide +kernel) (Nat.le_of_ble_eq_true rfl) (sx_go m90 100 rfl (fun VV CC hV hC => ?_))
  refine hC _ _ _ _ _ (c_isSheet1 ⟨fun _ => ⟨3, ⟨rfl, by omega⟩, fun b (eb : some 61 = some b) => ?_, fun (eb : some 61 = none) => by cases eb⟩, fun (c1 : gs_in (nI 3) 0 (nI 3) = 0) => absurd c1 hsh⟩)
  cases eb
  refine ⟨fun (c2 : ¬ I 61 0 = -1) => hV _ _ _ _ _ _ _ ?_, fun (c2 : I 61 0 = -1) => ?_⟩
  · rw [g0] at c2
    rw [if_neg (fun h => c2 (hneg.mp h))] at hk
    exact v1_reads_61 (d := d + 1) hb hn hn10 (g1.trans oz) oz24 g2 hk z 0 I (by omega) ⟨rfl, fun i hi => absurd hi (Nat.not_lt_zero i)⟩
  · rw [g0] at c2
    rw [if_pos (hneg.mpr c2)] at hk
    exact hk
theorem v1_pour_61 {n z : Nat} (hn : s 0 = nI n) (hn10 : n ≤ 10) (hz24 : z ≤ 24) (hT : gs_tn s) (hg : ∀ i, i < 24 → I 62 i = R (24 * 3 + i)) (hk : ∀ J, gb_fr 19 I J → gb 19 (gs_it (gs_pour1 R 3) (min z n) s) J → K (some (.int (gs_pourC R 3 s (min z n)))) J (sx_run rw m ln)) :
    ∀ (r k : Nat) (J : sx_I), k + r = min z n → (gb_fr 19 I J ∧ gb 19 (gs_it (gs_pour1 R 3) k s) J) → sx_V 89 (d + 3) 0 0 K 49 [(0, .ref 15), (2, .ref 61), (3, .int (gs_pourC R 3 s k)), (4, .int (nI (min z n))), (5, .int (nI k))] [] J (sx_run rw m ln) := by
  have hlo : ∀ k, k ≤ 10 → gs_lo s (gs_it (gs_pour1 R 3) k s) := fun k hk => gs_lo.it _ k (fun k' s hk' => gs_lo.set s k' 2 _ (by omega) (by omega))
  refine sx_for (min z n) (fun J h => ?_) (fun k J hkc h ih => ?_)
  · refine sx_go m89 60 rfl (fun VV CC hV hC => ?_)
    exact ⟨fun _ => hk J h.1 h.2, fun (c1 : ¬ nI (min z n) ≤ nI (min z n)) => absurd (Int32.le_refl _) c1⟩
  · obtain ⟨hf, hb⟩ := h
    have eR : J 62 k = R (24 * 3 + k) := by rw [hf 62 (by omega) (by omega)]; exact hg k (by omega)
    have fin : ∀ v, v = gs_pourV (gs_it (gs_pour1 R 3) k s) R 3 k → (J 22 k = v → sx_V 89 (d + 3) 0 0 K 49 [(0, .ref 15), (2, .ref 61), (3, .int (gs_pourC R 3 s k)), (4, .int (nI (min z n))), (5, .int (nI k + nI 1))] [] J (sx_run rw m ln)) ∧ (¬ J 22 k = v → sx_V 89 (d + 3) 0 0 K 49 [(0, .ref 15), (2, .ref 61), (3, .int (gs_pourC R 3 s k + nI 1)), (4, .int (nI (min z n))), (5, .int (nI k + nI 1))] [] (sx_up J 22 (upd (J 22) k v)) (sx_run rw m ln)) := by
      intro v hv
      rw [gb_wear_19 hb (by omega)]
      refine ⟨fun h => ?_, fun h => ?_⟩
      · have := ih J ⟨hf, by rw [gs_it, gs_pour1, ← hv, ← h]; unfold gs_set; rw [gs_upself]; exact hb⟩
        rw [nI_succ k, show gs_pourC R 3 s (k + 1) = gs_pourC R 3 s k by
          rw [gs_pourC, ← hv, if_pos h.symm]; exact Int32.add_zero _] at this
        exact this
      · have := ih (sx_up J 22 (upd (J 22) k v)) ⟨hf.tr (gb_fr.up J 22 _ (by omega) (by omega)), by rw [gs_it, gs_pour1, ← hv]; exact hb.set (w := 2) (by omega) (by omega) v ((hlo k (by omega)).tn hT)⟩
        rw [nI_succ k, show gs_pourC R 3 s (k + 1) = gs_pourC R 3 s k + nI 1 by
          rw [gs_pourC, ← hv, if_neg (fun q => h q.symm)]] at this
        exact this
    refine sx_go m89 60 rfl (fun VV CC hV hC => ?_)
    refine ⟨fun (c1 : nI (min z n) ≤ nI k) => absurd c1 (nI_ge hkc (by omega)), fun _ => hC _ _ _ _ _ (c_isNum_61 rfl (by omega) (fun c2 => ⟨fun _ => ⟨k, ⟨rfl, by omega⟩, k, ⟨rfl, by omega⟩, fun _ => hV _ _ _ _ _ _ _ ((fin (J 22 k) ?_).1 rfl), fun (q : ¬ J 22 k = J 22 k) => absurd rfl q⟩, fun (q : ¬ nI 0 = 0) => absurd rfl q⟩) (fun c2 => ⟨fun (q : nI 1 = 0) => absurd q (by decide +kernel), fun _ => ⟨k, ⟨rfl, by omega⟩, hC _ _ _ _ _ (c_held ⟨k, ⟨rfl, by omega⟩, fun (c3 : J 22 k = gs_wi (J 62 k) (nI 99)) => hV _ _ _ _ _ _ _ ((fin _ ?_).1 c3), fun (c3 : ¬ J 22 k = gs_wi (J 62 k) (nI 99)) => ⟨k, ⟨rfl, by omega⟩, hV _ _ _ _ _ _ _ ((fin _ ?_).2 c3)⟩⟩)⟩⟩))⟩
    · rw [eR] at c2
      unfold gs_pourV
      rw [if_pos c2, gb_wear_19 hb (by omega)]
    · rw [eR] at c2 ⊢
      unfold gs_pourV
      rw [if_neg c2]
    · rw [eR] at c2 ⊢
      unfold gs_pourV
      rw [if_neg c2]
theorem c1_pour_61 (hb : gb 19 s I) (hi : gs_inv s) (hT : gs_tn s) (hg : gh S Z R I) (ho : gh_ok S Z R) (hk : ∀ J, gb_fr 19 I J → gb 19 (gs_pour s S Z R (nI 3)).1 J → K (some (.int (gs_pour s S Z R (nI 3)).2)) J (sx_run rw m ln)) : sx_C 89 (d + 4) [.ref 15, .int (nI 3)] I (sx_run rw m ln) K := by
  obtain ⟨⟨n, hn, hn10⟩, -⟩ := id hi
  have hsh : ¬ gs_in (nI 3) 0 (nI 3) = 0 := gs_in_c (by omega) (by omega)
  obtain ⟨g0, g1, g2⟩ := hg 3 (by omega)
  have g0 : I 61 0 = S 3 := g0
  have g1 : I 61 1 = Z 3 := g1
  obtain ⟨o0, ⟨z, oz, oz24⟩, o2⟩ := ho 3 (by omega)
  have hneg := gh_S ho (j := 3) (by omega)
  generalize e : gs_pour s S Z R (nI 3) = g at hk
  unfold gs_pour at e
  rw [if_neg hsh, show (nI 3).toNatClampNeg = 3 from nI_clamp (by omega), oz, nI_clamp (by omega), gs_N_eq hn hn10] at e
  refine sx_enter (by decide +kernel) (Nat.le_of_ble_eq_true rfl) (sx_go m89 100 rfl (fun VV CC hV hC => ?_))
  refine hC _ _ _ _ _ (c_isSheet1 ⟨fun _ => ⟨3, ⟨rfl, by omega⟩, fun b (eb : some 61 = some b) => ?_, fun (eb : some 61 = none) => by cases eb⟩, fun (c1 : gs_in (nI 3) 0 (nI 3) = 0) => absurd c1 hsh⟩)
  cases eb
  refine ⟨fun (c2 : ¬ I 61 0 = -1) => hC _ _ _ _ _ (c_min (hV _ _ _ _ _ _ _ ?_)), fun (c2 : I 61 0 = -1) => ?_⟩
  · rw [g0] at c2
    rw [if_neg (fun h => c2 (hneg.mp h))] at e
    subst e
    have em : gs_min (I 19 1) (I 61 1) = nI (min z n) := by
      rw [hb.1.1, hn, g1, oz]
      unfold gs_min
      by_cases h : z < n
      · rw [if_pos (nI_lt h (by omega)), show min z n = z by omega]
      · rw [if_neg (nI_nlt (by omega) (by omega)), show min z n = n by omega]
    rw [em]
    exact v1_pour_61 (d := d + 1) hn hn10 oz24 hT g2 hk (min z n) 0 I (by omega) ⟨gb_fr.rf _ _, hb⟩
  · rw [g0] at c2
    rw [if_pos (hneg.mpr c2)] at e
    subst e
    exact hk I (gb_fr.rf _ _) hb
theorem c1_mark {a p v : Int32} (hg : gh S Z R I) (ho : gh_ok S Z R) (hk : ∀ J, (∀ q, (q < 55 ∨ 62 < q) → J q = I q) → gh S Z (gs_mark S Z R a p v).1 J → K (some (.int (gs_mark S Z R a p v).2)) J (sx_run rw m ln)) : sx_C 88 (d + 3) [.ref 15, .int a, .int p, .int v] I (sx_run rw m ln) K := by
  by_cases c1 : gs_in a 0 (nI 3) = 0
  · have e : gs_mark S Z R a p v = (R, -1000000001) := if_pos c1
    rw [e] at hk
    refine sx_enter (by decide +kernel) (Nat.le_of_ble_eq_true rfl) (sx_go m88 100 rfl (fun VV CC hV hC => ?_))
    exact hC _ _ _ _ _ (c_isSheet1 ⟨fun (q : ¬ gs_in a 0 (nI 3) = 0) => absurd c1 q, fun _ => hk I (fun _ _ => rfl) hg⟩)
  · obtain ⟨j, rfl, _, h3⟩ := gs_in_nat (a := 0) (by decide) c1 (by decide)
    have : j = 0 ∨ j = 1 ∨ j = 2 ∨ j = 3 := by omega
    rcases this with rfl | rfl | rfl | rfl
    · exact c1_mark_55 hg ho hk
    · exact c1_mark_57 hg ho hk
    · exact c1_mark_59 hg ho hk
    · exact c1_mark_61 hg ho hk
theorem c1_reads {a : Int32} (hb : gb 19 s I) (hi : gs_inv s) (hg : gh S Z R I) (ho : gh_ok S Z R) (hk : K (some (.int (gs_reads s S Z R a))) I (sx_run rw m ln)) : sx_C 90 (d + 3) [.ref 15, .int a] I (sx_run rw m ln) K := by
  by_cases c1 : gs_in a 0 (nI 3) = 0
  · have e : gs_reads s S Z R a = -1000000001 := if_pos c1
    rw [e] at hk
    refine sx_enter (by decide +kernel) (Nat.le_of_ble_eq_true rfl) (sx_go m90 100 rfl (fun VV CC hV hC => ?_))
    exact hC _ _ _ _ _ (c_isSheet1 ⟨fun (q : ¬ gs_in a 0 (nI 3) = 0) => absurd c1 q, fun _ => hk⟩)
  · obtain ⟨j, rfl, _, h3⟩ := gs_in_nat (a := 0) (by decide) c1 (by decide)
    have : j = 0 ∨ j = 1 ∨ j = 2 ∨ j = 3 := by omega
    rcases this with rfl | rfl | rfl | rfl
    · exact c1_reads_55 hb hi hg ho hk
    · exact c1_reads_57 hb hi hg ho hk
    · exact c1_reads_59 hb hi hg ho hk
    · exact c1_reads_61 hb hi hg ho hk
theorem c1_pour {a : Int32} (hb : gb 19 s I) (hi : gs_inv s) (hT : gs_tn s) (hg : gh S Z R I) (ho : gh_ok S Z R) (hk : ∀ J, gb_fr 19 I J → gb 19 (gs_pour s S Z R a).1 J → K (some (.int (gs_pour s S Z R a).2)) J (sx_run rw m ln)) : sx_C 89 (d + 4) [.ref 15, .int a] I (sx_run rw m ln) K := by
  by_cases c1 : gs_in a 0 (nI 3) = 0
  · have e : gs_pour s S Z R a = (s, -1000000001) := if_pos c1
    rw [e] at hk
    refine sx_enter (by decide +kernel) (Nat.le_of_ble_eq_true rfl) (sx_go m89 100 rfl (fun VV CC hV hC => ?_))
    exact hC _ _ _ _ _ (c_isSheet1 ⟨fun (q : ¬ gs_in a 0 (nI 3) = 0) => absurd c1 q, fun _ => hk I (gb_fr.rf _ _) hb⟩)
  · obtain ⟨j, rfl, _, h3⟩ := gs_in_nat (a := 0) (by decide) c1 (by decide)
    have : j = 0 ∨ j = 1 ∨ j = 2 ∨ j = 3 := by omega
    rcases this with rfl | rfl | rfl | rfl
    · exact c1_pour_55 hb hi hT hg ho hk
    · exact c1_pour_57 hb hi hT hg ho hk
    · exact c1_pour_59 hb hi hT hg ho hk
    · exact c1_pour_61 hb hi hT hg ho hk
end
