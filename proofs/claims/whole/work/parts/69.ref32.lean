/-! ===== the reference: numbers; nextToken ===== -/
section
variable {d m : Nat} {I : sx_I} {rw : Nat → Nat → Option Nat} {ln : Nat → Nat} {K : sx_K} {T : Nat → Nat} {n : Nat}
theorem v_nt214 {t : Int32} (hT : gy_bt T n I) {p0 : Nat} (hp0 : p0 < n) : ∀ (r p : Nat) (J : sx_I), p + r = n → p0 ≤ p → gy_nt I J → J 78 16 = nI p → J 78 15 = nI p0 → (∀ i, i < p - p0 → gy_so (T (p0 + i)) = 2) → (p - p0 ≤ 4 → J 78 18 = nI (gy_val T p0 (p - p0))) →
    (∀ J', gy_nt I J' → J' 78 15 = nI p0 → J' 78 16 = nI (gy_rn T 2 r p) → ((¬ t = 0 ∨ 4 < gy_rn T 2 r p - p0) → J' 78 17 = nI 4) → (¬ (¬ t = 0 ∨ 4 < gy_rn T 2 r p - p0) → J' 78 17 = nI 2) → (gy_rn T 2 r p - p0 ≤ 4 → J' 78 18 = nI (gy_val T p0 (gy_rn T 2 r p - p0))) → K none J' (sx_run rw m ln)) →
    sx_V 174 (d + 3) 0 0 K 214 [(0, .ref 78), (1, .int t)] [] J (sx_run rw m ln)
  | r, p, J, hpr, hpp, hJ, h16, h15, hdig, h18, h => by
    have hn9 := hT.2.1
    refine sx_go m174 100 rfl (fun VV CC hV hC => ?_)
    refine hC _ _ _ _ _ (c_isDigit (hJ.bt hT) h16 (by omega) ?_)
    by_cases c : p < n ∧ gy_so (T p) = 2
    · rw [if_pos c]
      refine ⟨fun (q : nI 1 = 0) => absurd q (by decide), fun _ => ?_⟩
      obtain ⟨r', er⟩ : ∃ r', r = r' + 1 := ⟨r - 1, by omega⟩
      subst er
      have eb : gy_rn T 2 (r' + 1) p = gy_rn T 2 r' (p + 1) := if_pos c.2
      rw [eb] at h
      have e1 : J 91 p = nI (T p) := ((hJ.bt hT).2.2 p c.1).1
      have hd := gy_so2.mp c.2
      have e15 : J 78 16 - J 78 15 = nI (p - p0) := by rw [h16, h15, pk_sub hpp]
      have nx : ∀ y : Int32, (p + 1 - p0 ≤ 4 → y = nI (gy_val T p0 (p + 1 - p0))) → ∀ J', J' = sx_up J 78 (upd (J 78) 18 y) → sx_V 174 (d + 3) 0 0 K 214 [(0, .ref 78), (1, .int t)] [] (sx_up J' 78 (upd (J' 78) 16 (J' 78 16 + nI 1))) (sx_run rw m ln) := by
        intro y hy J' hJ'
        have e78 : J' 78 = upd (J 78) 18 y := by rw [hJ', sx_up_same]
        have nt : gy_nt I J' := hJ' ▸ hJ.put (k := 18) (by omega)
        refine v_nt214 hT hp0 r' (p + 1) _ (by omega) (by omega) (nt.put (k := 16) (by omega)) ?_ ?_ ?_ ?_ h
        · rw [sx_up_same, pk_us, e78, pk_un (by decide), h16, nI_add]
        · rw [sx_up_same, pk_un (by decide), e78, pk_un (by decide)]; exact h15
        · intro i hi
          by_cases q : i = p - p0
          · rw [q, show p0 + (p - p0) = p by omega]; exact c.2
          · exact hdig i (by omega)
        · intro q
          rw [sx_up_same, pk_un (by decide), e78, pk_us]; exact hy q
      refine ⟨fun (c1 : nI 4 ≤ J 78 16 - J 78 15) => ?_, fun (c1 : ¬ nI 4 ≤ J 78 16 - J 78 15) => ?_⟩
      · rw [e15, nI_leI (by omega) (by omega)] at c1
        exact hV _ _ _ _ _ _ _ (nx _ (fun q => by omega) _ rfl)
      · rw [e15, nI_leI (by omega) (by omega)] at c1
        refine ⟨p, ⟨h16, by omega⟩, hV _ _ _ _ _ _ _ (nx _ (fun q => ?_) _ rfl)⟩
        have e2 : p + 1 - p0 = (p - p0) + 1 := by omega
        rw [h18 (by omega), e1, pk_mul, nI_add, pk_sub (by omega), e2]
        show _ = nI (10 * gy_val T p0 (p - p0) + (T (p0 + (p - p0)) - 48))
        rw [show p0 + (p - p0) = p by omega]
        congr 1
        omega
    · rw [if_neg c]
      refine ⟨fun _ => ?_, fun q => absurd rfl q⟩
      have eb : gy_rn T 2 r p = p := by
        cases r with
        | zero => rfl
        | succ r =>
          show (if _ then _ else _) = _
          rw [if_neg (fun q => c ⟨by omega, q⟩)]
      rw [eb] at h
      have e15 : J 78 16 - J 78 15 = nI (p - p0) := by rw [h16, h15, pk_sub hpp]
      have go : ∀ x : Int32, ((¬ t = 0 ∨ 4 < p - p0) → x = nI 4) → (¬ (¬ t = 0 ∨ 4 < p - p0) → x = nI 2) → K none (sx_up J 78 (upd (J 78) 17 x)) (sx_run rw m ln) := by
        intro x hx hx2
        refine h _ (hJ.put (k := 17) (by omega)) ?_ ?_ ?_ ?_ ?_
        · rw [sx_up_same, pk_un (by decide)]; exact h15
        · rw [sx_up_same, pk_un (by decide)]; exact h16
        · intro q; rw [sx_up_same, pk_us]; exact hx q
        · intro q; rw [sx_up_same, pk_us]; exact hx2 q
        · intro q; rw [sx_up_same, pk_un (by decide)]; exact h18 q
      refine ⟨fun (c1 : ¬ t = 0) => go _ (fun _ => rfl) (fun q => absurd (Or.inl c1) q), fun (c1 : t = 0) => ⟨fun (c2 : J 78 16 - J 78 15 ≤ nI 4) => go _ (fun q => ?_) (fun _ => rfl), fun (c2 : ¬ J 78 16 - J 78 15 ≤ nI 4) => go _ (fun _ => rfl) (fun q => absurd (Or.inr ?_) q)⟩⟩
      · rw [e15, nI_leI (by omega) (by omega)] at c2
        rcases q with q | q
        · exact absurd c1 q
        · omega
      · rw [e15, nI_leI (by omega) (by omega)] at c2
        omega
theorem c_nextToken {e : Nat} (hT : gy_bt T n I) (he : e ≤ n) (h16 : I 78 16 = nI e) (hw : (0 < e ∧ (I 78 17 = nI 1 ∨ I 78 17 = nI 2)) ↔ gy_w T e)
    (hk : ∀ J, gy_nt I J → gy_raw T n e (gy_bl T (n - e) e) (gy_to T n (gy_bl T (n - e) e)) J → K none J (sx_run rw m ln)) : sx_C 174 (d + 3) [.ref 78] I (sx_run rw m ln) K := by
  have hn9 := hT.2.1
  have ge := gy_bl_ge T (n - e) e
  have le := gy_bl_le T (n - e) e
  have no := gy_bl_no T (n - e) e
  generalize hp : gy_bl T (n - e) e = p at hk ge le no
  have main : ∀ t : Int32, (¬ t = 0 ↔ gy_w T e) → sx_V 174 (d + 3) 0 0 K 34 [(0, .ref 78), (1, .int t), (2, .int (nI e))] [] I (sx_run rw m ln) := by
    intro t ht
    refine v_nt34 hT he (n - e) e I (by omega) (gy_nt.rf I) h16 (fun J hJ hJ16 => ?_)
    rw [hp] at hJ16 ⊢
    have ht2 : (¬ (if ¬ t = 0 ∧ p = e then nI 1 else nI 0) = 0) ↔ (p = e ∧ gy_w T e) := by
      by_cases c : ¬ t = 0 ∧ p = e
      · rw [if_pos c]; exact ⟨fun _ => ⟨c.2, ht.mp c.1⟩, fun _ => by decide⟩
      · rw [if_neg c]; exact ⟨fun q => absurd rfl q, fun q => absurd ⟨ht.mpr q.2, q.1⟩ c⟩
    generalize (if ¬ t = 0 ∧ p = e then nI 1 else nI 0) = t2 at ht2 ⊢
    have hn := (hJ.bt hT).1
    have fac : ∀ J2, J2 = sx_up J 78 (upd (J 78) 15 (J 78 16)) → gy_nt I J2 ∧ J2 78 15 = nI p ∧ J2 78 16 = nI p ∧ J2 78 14 = nI n := by
      intro J2 h
      have e78 : J2 78 = upd (J 78) 15 (J 78 16) := by rw [h, sx_up_same]
      exact ⟨h ▸ hJ.put (k := 15) (by omega), by rw [e78, pk_us]; exact hJ16, by rw [e78, pk_un (by decide)]; exact hJ16, by rw [e78, pk_un (by decide)]; exact hn⟩
    have fin0 : p = n → ∀ J2, J2 = sx_up J 78 (upd (J 78) 15 (J 78 16)) → K none (sx_up J2 78 (upd (J2 78) 17 (nI 0))) (sx_run rw m ln) := by
      intro hpn J2 h
      obtain ⟨f1, f2, f3, f4⟩ := fac J2 h
      refine hk _ (f1.put (k := 17) (by omega)) ⟨?_, fun _ => ⟨?_, ?_⟩, fun q => absurd hpn (by omega)⟩
      · rw [sx_up_same, pk_un (by decide)]; exact f2
      · rw [sx_up_same, pk_un (by decide)]; exact f3
      · rw [sx_up_same, pk_us]; rfl
    have fin3 : p < n → gy_so (T p) = 3 → ∀ J2, J2 = sx_up J 78 (upd (J 78) 15 (J 78 16)) → ∀ J3, J3 = sx_up J2 78 (upd (J2 78) 17 (nI 3)) → ∀ y J4, y = nI (T p) → J4 = sx_up J3 78 (upd (J3 78) 19 y) → K none (sx_up J4 78 (upd (J4 78) 16 (J4 78 16 + nI 1))) (sx_run rw m ln) := by
      intro hpn hs J2 h J3 h3 y J4 hy h4
      obtain ⟨f1, f2, f3, f4⟩ := fac J2 h
      have g3 : J3 78 = upd (J2 78) 17 (nI 3) := by rw [h3, sx_up_same]
      have g4 : J4 78 = upd (J3 78) 19 y := by rw [h4, sx_up_same]
      have n3 : gy_nt I J3 := h3 ▸ f1.put (k := 17) (by omega)
      have n4 : gy_nt I J4 := h4 ▸ n3.put (k := 19) (by omega)
      have eto : gy_to T n p = p + 1 := if_pos hs
      refine hk _ (n4.put (k := 16) (by omega)) ⟨?_, fun q => absurd hpn (by omega), fun _ => ⟨?_, fun _ => ⟨?_, ?_⟩, fun q => absurd (hs.symm.trans q) (by decide), fun q => absurd (hs.symm.trans q) (by decide)⟩⟩
      · rw [sx_up_same, pk_un (by decide), g4, pk_un (by decide), g3, pk_un (by decide)]; exact f2
      · rw [sx_up_same, pk_us, g4, pk_un (by decide), g3, pk_un (by decide), f3, nI_add, eto]
      · rw [sx_up_same, pk_un (by decide), g4, pk_un (by decide), g3, pk_us]
      · rw [sx_up_same, pk_un (by decide), g4, pk_us]; exact hy
    have fin1 : p < n → gy_so (T p) = 1 → ∀ J2, J2 = sx_up J 78 (upd (J 78) 15 (J 78 16)) → sx_V 174 (d + 3) 0 0 K 128 [(0, .ref 78), (1, .int t2)] [] J2 (sx_run rw m ln) := by
      intro hpn hs J2 h
      obtain ⟨f1, f2, f3, f4⟩ := fac J2 h
      have eto : gy_to T n p = gy_rn T 1 (n - p) p := by
        rw [gy_rn_first hpn hs]
        unfold gy_to
        rw [if_neg (by omega), hs]
      refine v_nt128 hT hpn (n - p) p J2 (by omega) (Nat.le_refl p) f1 f3 f2 (fun J' q1 q2 q3 q4 q5 => hk J' q1 ⟨q2, fun q => absurd hpn (by omega), fun _ => ⟨by rw [eto]; exact q3, fun q => absurd (hs.symm.trans q) (by decide), fun _ => ⟨⟨fun q => ?_, fun q => ?_⟩, by rw [eto]; exact q5⟩, fun q => absurd (hs.symm.trans q) (by decide)⟩⟩)
      · rw [q4, if_neg (ht2.mpr q)]
      · rw [q4, if_pos (Decidable.byContradiction (fun z => q (ht2.mp z)))]
    have fin2 : p < n → gy_so (T p) = 2 → ∀ J2, J2 = sx_up J 78 (upd (J 78) 15 (J 78 16)) → sx_V 174 (d + 3) 0 0 K 214 [(0, .ref 78), (1, .int t2)] [] (sx_up J2 78 (upd (J2 78) 18 (nI 0))) (sx_run rw m ln) := by
      intro hpn hs J2 h
      obtain ⟨f1, f2, f3, f4⟩ := fac J2 h
      have eto : gy_to T n p = gy_rn T 2 (n - p) p := by
        rw [gy_rn_first hpn hs]
        unfold gy_to
        rw [if_neg (by omega), hs]
      refine v_nt214 hT hpn (n - p) p _ (by omega) (Nat.le_refl p) (f1.put (k := 18) (by omega)) ?_ ?_ (fun i hi => absurd hi (by omega)) (fun _ => ?_) (fun J' q1 q2 q3 q4 q5 q6 => hk J' q1 ⟨q2, fun q => absurd hpn (by omega), fun _ => ⟨by rw [eto]; exact q3, fun q => absurd (hs.symm.trans q) (by decide), fun q => absurd (hs.symm.trans q) (by decide), fun _ => ⟨⟨fun q => ?_, fun q => ?_⟩, by rw [eto]; exact q6⟩⟩⟩)
      · rw [sx_up_same, pk_un (by decide)]; exact f3
      · rw [sx_up_same, pk_un (by decide)]; exact f2
      · rw [sx_up_same, pk_us, show p - p = 0 by omega]; rfl
      · rw [eto] at q
        exact q4 (q.elim (fun z => Or.inl (ht2.mpr z)) Or.inr)
      · rw [eto] at q
        exact q5 (fun z => q (z.elim (fun z => Or.inl (ht2.mp z)) Or.inr))
    have e15 := (fac _ rfl).2.1
    have e14 := (fac _ rfl).2.2.2
    have bt := (fac _ rfl).1.bt hT
    refine sx_go m174 100 rfl (fun VV CC hV hC => ?_)
    refine ⟨fun c1 => ?_, fun c1 => ?_⟩
    · have hpn : p < n := by
        rcases Nat.lt_or_ge p n with q | q
        · exact q
        · exact absurd (e15.trans ((show nI p = nI n by rw [show p = n by omega]).trans e14.symm)) c1
      refine hC _ _ _ _ _ (c_isLetter bt e15 (by omega) ?_)
      have s4 := gy_so4 (T p)
      have s0 : gy_so (T p) ≠ 0 := fun q => no (by omega) (gy_so0.mp q)
      by_cases s1 : gy_so (T p) = 1
      · rw [if_pos ⟨hpn, s1⟩]
        exact ⟨fun (q : nI 1 = 0) => absurd q (by decide), fun _ => hV _ _ _ _ _ _ _ (fin1 hpn s1 _ rfl)⟩
      · rw [if_neg (fun q => s1 q.2)]
        refine ⟨fun _ => ?_, fun q => absurd rfl q⟩
        refine hC _ _ _ _ _ (c_isDigit bt e15 (by omega) ?_)
        by_cases s2 : gy_so (T p) = 2
        · rw [if_pos ⟨hpn, s2⟩]
          exact ⟨fun (q : nI 1 = 0) => absurd q (by decide), fun _ => hV _ _ _ _ _ _ _ (fin2 hpn s2 _ rfl)⟩
        · rw [if_neg (fun q => s2 q.2)]
          refine ⟨fun _ => ?_, fun q => absurd rfl q⟩
          have s3 : gy_so (T p) = 3 := by omega
          have a15 : ∀ J2, J2 = sx_up J 78 (upd (J 78) 15 (J 78 16)) → (sx_up J2 78 (upd (J2 78) 17 (nI 3))) 78 15 = nI p := by
            intro J2 h; rw [sx_up_same, pk_un (by decide)]; exact (fac J2 h).2.1
          have a91 : ∀ J2, J2 = sx_up J 78 (upd (J 78) 15 (J 78 16)) → (sx_up J2 78 (upd (J2 78) 17 (nI 3))) 91 p = nI (T p) := by
            intro J2 h; rw [sx_up_ne (by decide), (fac J2 h).1.ne (by decide)]; exact (hT.2.2 p hpn).1
          exact ⟨p, ⟨a15 _ rfl, by omega⟩, fin3 hpn s3 _ rfl _ rfl _ _ (a91 _ rfl) rfl⟩
    · have hpn : p = n := (nI_eq (by omega) (by omega)).mp (e15.symm.trans ((show _ = _ from c1).trans e14))
      exact fin0 hpn _ rfl
  refine sx_enter (by decide +kernel) (Nat.le_of_ble_eq_true rfl) (sx_go m174 60 rfl (fun VV CC hV hC => ?_))
  have e0 : ∀ x, x = 0 → (nI e ≤ x ↔ e = 0) := by
    intro x hx
    rw [hx]
    exact (nI_leI (b := 0) (by omega) (by omega)).trans (by omega)
  refine ⟨fun (c1 : I 78 16 ≤ 0) => ?_, fun (c1 : ¬ I 78 16 ≤ 0) => ⟨fun (c2 : I 78 17 = nI 1) => ?_, fun (c2 : ¬ I 78 17 = nI 1) => ⟨fun (c3 : ¬ I 78 17 = nI 2) => ?_, fun (c3 : I 78 17 = nI 2) => ?_⟩⟩⟩
  · rw [h16, e0 _ rfl] at c1
    have := main (nI 0) ⟨fun q => absurd rfl q, fun q => absurd q.1 (by omega)⟩
    rw [← h16] at this
    exact hV _ _ _ _ _ _ _ this
  · rw [h16, e0 _ rfl] at c1
    have := main (nI 1) ⟨fun _ => hw.mp ⟨by omega, Or.inl c2⟩, fun _ => by decide⟩
    rw [← h16] at this
    exact hV _ _ _ _ _ _ _ this
  · rw [h16, e0 _ rfl] at c1
    have := main (nI 0) ⟨fun q => absurd rfl q, fun q => absurd (hw.mpr q).2 (fun z => z.elim c2 c3)⟩
    rw [← h16] at this
    exact hV _ _ _ _ _ _ _ this
  · rw [h16, e0 _ rfl] at c1
    have := main (nI 1) ⟨fun _ => hw.mp ⟨by omega, Or.inr c3⟩, fun _ => by decide⟩
    rw [← h16] at this
    exact hV _ _ _ _ _ _ _ this
end
