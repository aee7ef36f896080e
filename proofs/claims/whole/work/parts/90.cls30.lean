/-! ===== the class: text ===== -/
section
variable {VV : sx_VT} {CC : sx_CT} {K : sx_K} {cd cs : List sx_E} {n mc ms pc npc : Nat} {x : List Nat} {cv : Value} {L : sx_L} {r : List Value} {I : sx_I} {G : sx_G} {a : Nat}
theorem sx_w_dup (h : sx_symG VV CC K cd n mc ms cs L (.ref a :: .ref a :: r) I G) : sx_symG VV CC K cd (n + 1) mc ms ((.dup, pc, npc, x, cv) :: cs) L (.ref a :: r) I G := h
end
theorem sx_upR_same {R : Nat → Nat → Option Nat} {a : Nat} {f : Nat → Option Nat} : sx_upR R a f a = f := if_pos rfl
theorem sx_mk_new {rw : Nat → Option Nat} (u t : Nat) :
    (fun R2 : Nat → Nat → Option Nat => sx_upR R2 17 (fun i => if i = t then some (97 + 2 * u) else R2 17 i)) (sx_upR (sx_upR (sx_mkR rw) (97 + 2 * u) (fun _ => none)) (97 + 2 * u) (fun i => if i = 2 then some (98 + 2 * u) else sx_upR (sx_mkR rw) (97 + 2 * u) (fun _ => none) (97 + 2 * u) i)) = sx_mkR (fun i => if i = t then some (97 + 2 * u) else rw i) := by
  funext a k
  by_cases h1 : a = 17
  · subst h1
    show sx_upR _ 17 _ 17 k = _
    rw [sx_upR_same, sx_upR_ne (by omega), sx_upR_ne (by omega)]
    rfl
  · show sx_upR _ 17 _ a k = _
    rw [sx_upR_ne h1]
    by_cases h2 : a = 97 + 2 * u
    · subst h2
      rw [sx_upR_same, sx_upR_same]
      unfold sx_mkR
      rw [sx_blef (show 96 < 97 + 2 * u by omega)]
      show _ = bif Nat.beq k 2 then some (97 + 2 * u + 1) else none
      by_cases h3 : k = 2
      · subst h3
        rw [if_pos rfl]
        show some (98 + 2 * u) = some (97 + 2 * u + 1)
        congr 1; omega
      · rw [if_neg h3]
        cases e : Nat.beq k 2 with
        | true => exact absurd (Nat.eq_of_beq_eq_true e) h3
        | false => rfl
    · rw [sx_upR_ne h2, sx_upR_ne h2]
      unfold sx_mkR
      cases Nat.ble a 96 with
      | false => rfl
      | true =>
        cases e : Nat.beq a 17 with
        | true => exact absurd (Nat.eq_of_beq_eq_true e) h1
        | false => rfl
section
variable {d u : Nat} {I : sx_I} {rw : Nat → Option Nat} {ln : Nat → Nat} {K : sx_K} {T : Nat → Nat} {n : Nat}
theorem c1_write {R : Nat → Nat → Option Nat} {t : Nat} {x : Int32} {G : sx_G} (hx : x = nI t) (ht : t < 14) (hR : R 16 0 = some 17) (hG : (sx_upR R 17 (fun i => if i = t then some (97 + 2 * u) else R 17 i), .inr (2 * u + 2), ln) = G) (hk : K none I G) : sx_C 1 (d + 2) [.ref 16, .int x, .ref (97 + 2 * u)] I (R, .inr (2 * u + 2), ln) K := by
  subst hx; subst hG
  have hin : ¬ gs_in (nI t) (nI 0) (nI 13) = 0 := gs_in_iff.mpr ⟨nI_le (by omega) (by omega), nI_le (by omega) (by omega)⟩
  have hal : sx_al (R, .inr (2 * u + 2), ln) (97 + 2 * u) = true := sx_al_t (by omega)
  have hsh : sx_sh (R, .inr (2 * u + 2), ln) (97 + 2 * u) = (0, 5, 3) := sx_sh_t u
  refine sx_enter (by decide +kernel) (Nat.le_of_ble_eq_true rfl) (sx_go m1 100 rfl (fun VV CC hV hC => ?_))
  refine hC _ _ _ _ _ (c_isWithin ⟨fun (q : gs_in (nI t) (nI 0) (nI 13) = 0) => absurd q hin, fun _ => ?_⟩)
  refine sx_s_al (cs := x1_11) rfl ?_
  refine sx_s_getr (cs := x1_14) rfl rfl hR ?_
  refine sx_s_il (cs := x1_15) rfl ?_
  refine sx_s_al (cs := x1_16) rfl ?_
  exact sx_w_aast (cs := x1_17) (N := 14) rfl rfl hal hsh rfl ht hk
def gb_new (t u k w : Nat) (o : List (Nat × Nat)) (I J : sx_I) : Prop :=
  (∀ q, q ≠ 15 → q ≠ 19 → q ≠ 27 → (q < 46 ∨ 49 < q) → q < 97 + 2 * u → J q = I q) ∧ (J 15 7 = 0 ∧ ∀ k, k ≠ 7 → J 15 k = I 15 k) ∧ (J 19 11 = nI (t + 1) ∧ ∀ k, k ≠ 11 → J 19 k = I 19 k) ∧ J 27 = upd (I 27) k (nI t) ∧ J (97 + 2 * u) 0 = nI k ∧ J (97 + 2 * u) 1 = nI w ∧ gy_cd (J (98 + 2 * u)) o
def gb_te (I J : sx_I) : Prop := (∀ q, q ≠ 15 → (q < 46 ∨ 49 < q) → J q = I q) ∧ J 15 7 = 0 ∧ ∀ k, k ≠ 7 → J 15 k = I 15 k
theorem c1_text {t : Nat} (ht : I 19 11 = nI t) (ht14 : t ≤ 14) (h7 : I 15 7 = nI n) (hT : gy_b5 T n I)
    (hkF : ∀ J b, gb_te I J → gy_read T n (upd (I 49) 0 0) = .inl b → K (some (.int (-100 - nI b))) J (sx_run rw (2 * u) ln))
    (hk14 : t = 14 → ∀ J key o w, gb_te I J → gy_read T n (upd (I 49) 0 0) = .inr (key, o, w) → K (some (.int (-1000000003))) J (sx_run rw (2 * u) ln))
    (hkT : t < 14 → ∀ J k o w, gb_new t u k w o I J → k < 3 → o.length ≤ 93 → gy_read T n (upd (I 49) 0 0) = .inr (nI k, o, w) → K (some (.int (nI t))) J (sx_run (fun i => if i = t then some (97 + 2 * u) else rw i) (2 * u + 2) (fun i => if i = 98 + 2 * u then o.length else ln i))) :
    sx_C 84 (d + 8) [.ref 15] I (sx_run rw (2 * u) ln) K := by
  have hn := hT.1
  refine sx_enter (by decide +kernel) (Nat.le_of_ble_eq_true rfl) (sx_go m84 100 rfl (fun VV CC hV hC => ?_))
  have base : ∀ J0 : sx_I, J0 = sx_up I 15 (upd (I 15) 7 (nI 0)) → gy_b5 T n J0 ∧ J0 49 = I 49 ∧ ∀ J, (∀ q, (q < 46 ∨ 49 < q) → J q = J0 q) → gb_te I J := by
    intro J0 e
    have ne : ∀ q, q ≠ 15 → J0 q = I q := fun q hq => by rw [e]; exact sx_up_ne hq
    refine ⟨⟨hn, fun i hi => by rw [ne 50 (by decide)]; exact hT.2 i hi⟩, ne 49 (by decide), fun J hJ => ⟨fun q h1 h2 => (hJ q h2).trans (ne q h1), ?_, fun k hk => ?_⟩⟩
    · rw [hJ 15 (by decide), e, sx_up_same, pk_us]; rfl
    · rw [hJ 15 (by decide), e, sx_up_same, pk_un hk]
  obtain ⟨b1, b2, b3⟩ := base _ rfl
  refine hC _ _ _ _ _ (c1_read (d := d) rfl h7 b1 (fun J b g1 g2 g3 => ?_) (fun J key o w g1 g2 g3 g4 g5 g6 g7 => ?_))
  · refine ⟨fun z => absurd z ?_, fun _ => hkF J b (b3 J g1) (by rw [← b2]; exact g2)⟩
    intro z
    have : (0 : Int32) ≤ nI b := nI_le (a := 0) (by omega) (by omega)
    have z : nI b = -1000000005 := z
    rw [z] at this
    exact absurd this (by decide)
  · rw [b2] at g2
    have te := b3 J g1
    have e11 : J 19 11 = nI t := by rw [te.1 19 (by decide) (by decide)]; exact ht
    refine ⟨fun _ => ⟨fun (c : J 19 11 < nI 14) => ?_, fun (c : ¬ J 19 11 < nI 14) => ?_⟩, fun z => absurd rfl z⟩
    · rw [e11, nI_ltI (by omega) (by omega)] at c
      have hkey : ∃ k, key = nI k ∧ k < 3 := by
        have e := g2
        unfold gy_read at e
        by_cases ck : gy_key T (gy_bl T n 0) (gy_ke T n (gy_bl T n 0)) = -1
        · rw [if_pos ck] at e; cases e
        · rw [if_neg ck] at e
          have k3 := (gy_key3 (T := T) (gy_bl T n 0) (gy_ke T n (gy_bl T n 0))).resolve_left ck
          have ek : gy_key T (gy_bl T n 0) (gy_ke T n (gy_bl T n 0)) = key := by
            revert e
            cases gy_run n (gy_key T (gy_bl T n 0) (gy_ke T n (gy_bl T n 0))) (gy_tk T n (gy_ke T n (gy_bl T n 0))) [] [] 0 0 0 true (upd (I 49) 0 0) with
            | inl b => intro e; cases e
            | inr z => intro e; cases e; rfl
          rw [ek] at k3
          rcases k3 with y | y | y
          · exact ⟨0, y, by omega⟩
          · exact ⟨1, y, by omega⟩
          · exact ⟨2, y, by omega⟩
      obtain ⟨k, rfl, hk3⟩ := hkey
      refine ⟨⟨by omega, rfl, rfl⟩, ?_⟩
      refine sx_w_dup (cs := x84_66) ?_
      refine sx_s_al (cs := x84_67) rfl ?_
      refine sx_s_getr (cs := x84_70) rfl rfl (b := 46) ?_ ?_
      · show sx_upR _ (97 + 2 * u) _ 15 5 = _
        rw [sx_upR_ne (by omega)]; rfl
      have f46 : ∀ k, (sx_up J (97 + 2 * u) (fun _ => 0)) 46 k = J 46 k := fun k => by rw [sx_up_ne (by omega)]
      refine hC _ _ _ _ _ (c1_textInit (d := d + 4) (M := o.length) (by rw [f46]; exact g5) (by omega) ?_ (fun J2 i1 i2 i3 i4 i5 => ?_))
      · rw [sx_upR_ne (by omega)]; rfl
      refine hC _ _ _ _ _ (c1_write (d := d + 5) e11 c ?_ (congrArg (fun R : Nat → Nat → Option Nat => ((R, .inr (2 * u + 2), fun i => if i = 98 + 2 * u then o.length else ln i) : sx_G)) (sx_mk_new u t)) ?_)
      · rw [sx_upR_ne (by omega), sx_upR_ne (by omega)]; rfl
      have q2 : ∀ q, q < 97 + 2 * u → J2 q = J q := fun q hq => by rw [i1 q hq]; exact sx_up_ne (by omega)
      have e46 : J2 46 0 = nI k := by rw [q2 46 (by omega)]; exact g3
      have fin : ∀ J3 : sx_I, J3 = sx_up J2 27 (upd (J2 27) k (J 19 11)) → K (some (.int (J 19 11))) (sx_up J3 19 (upd (J3 19) 11 (J3 19 11 + nI 1))) (sx_run (fun i => if i = t then some (97 + 2 * u) else rw i) (2 * u + 2) (fun i => if i = 98 + 2 * u then o.length else ln i)) := by
        intro J3 e3
        have ne : ∀ q, q ≠ 27 → J3 q = J2 q := fun q hq => by rw [e3]; exact sx_up_ne hq
        have w11 : J3 19 11 = nI t := by rw [ne 19 (by decide), q2 19 (by omega)]; exact e11
        rw [e11] at e3 ⊢
        refine hkT c _ k o w ⟨fun q h1 h2 h3 h4 h5 => ?_, ⟨?_, fun j hj => ?_⟩, ⟨?_, fun j hj => ?_⟩, ?_, ?_, ?_, ?_⟩ hk3 g6 g2
        · rw [sx_up_ne h2, ne q h3, q2 q h5]; exact te.1 q h1 h4
        · rw [sx_up_ne (by decide), ne 15 (by decide), q2 15 (by omega)]; exact te.2.1
        · rw [sx_up_ne (by decide), ne 15 (by decide), q2 15 (by omega)]; exact te.2.2 j hj
        · rw [sx_up_same, pk_us, w11]; exact nI_add t 1
        · rw [sx_up_same, pk_un hj, ne 19 (by decide), q2 19 (by omega), te.1 19 (by decide) (by decide)]
        · rw [sx_up_ne (by decide), e3, sx_up_same, q2 27 (by omega), te.1 27 (by decide) (by decide)]
        · rw [sx_up_ne (by omega), ne _ (by omega), i3, f46]; exact g3
        · rw [sx_up_ne (by omega), ne _ (by omega), i4, f46]; exact g4
        · refine gy_cd_cg o (fun i hi => ?_) g7
          rw [sx_up_ne (by omega), ne _ (by omega), i5 i hi, sx_up_ne (by omega)]
      refine ⟨k, ⟨e46, hk3⟩, ?_⟩
      exact fin _ rfl
    · rw [e11, nI_ltI (by omega) (by omega)] at c
      exact hk14 (by omega) J key o w te g2
end
