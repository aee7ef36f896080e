/-! ===== the reference: text ===== -/
theorem gy_tn_sg {v : Nat} (h : 0 < gy_tn v) : v < 128 ∧ v ≠ 33 ∧ gb_sg v := by
  unfold gy_tn at h
  unfold gb_sg
  revert h
  split <;> (try split) <;> (try split) <;> (try split) <;> (try split) <;> omega
theorem gy_nm_lt {key : Int32} {v : Nat} (h : gs_nmok key v) : v < 128 := by
  rcases h with ⟨-, h⟩ | ⟨-, h⟩ | ⟨-, h⟩ <;> omega
theorem gy_tok {s : Nat → Int32} {t : Nat} {key : Int32} : ∀ o : List (Nat × Nat), gy_out (fun i => s (66 + 200 * t + i)) o → gy_ok key o →
    gs_ht s t o.length = gy_hg o ∧ ∀ k, k < o.length → (s (66 + 200 * t + 2 * k) = nI 2 → (s (67 + 200 * t + 2 * k) = nI 33 → 1 ≤ gs_ht s t k) ∧ (¬ s (67 + 200 * t + 2 * k) = nI 33 → 2 ≤ gs_ht s t k)) ∧
      (¬ s (66 + 200 * t + 2 * k) = nI 2 → ¬ s (66 + 200 * t + 2 * k) = 0 → ∃ c, s (67 + 200 * t + 2 * k) = nI c ∧ c < 128 ∧ gs_nmok key c)
  | [], _, _ => ⟨rfl, fun k hk => absurd hk (Nat.not_lt_zero k)⟩
  | (w, v) :: o, ⟨h1, h2, h3⟩, ⟨k1, k2⟩ => by
    obtain ⟨i1, i2⟩ := gy_tok o h3 k1
    have e67 : 67 + 200 * t + 2 * o.length = 66 + 200 * t + (2 * o.length + 1) := by omega
    have h2' : s (67 + 200 * t + 2 * o.length) = nI v := by rw [e67]; exact h2
    have h1' : s (66 + 200 * t + 2 * o.length) = nI w := h1
    have hw : w ≤ 2 := by rcases k2 with q | q | q | q <;> omega
    have hv : v < 2 ^ 31 := by
      rcases k2 with q | q | q | q
      · omega
      · have := gy_nm_lt q.2; omega
      · omega
      · have := (gy_tn_sg q.2.1).1; omega
    have w2 : nI w = nI 2 ↔ w = 2 := nI_eq (by omega) (by omega)
    have w0 : nI w = 0 ↔ w = 0 := nI_eq (b := 0) (by omega) (by omega)
    have v33 : nI v = nI 33 ↔ v = 33 := nI_eq (by omega) (by omega)
    refine ⟨?_, fun k hk => ?_⟩
    · show (if s (66 + 200 * t + 2 * o.length) = nI 2 then (if s (67 + 200 * t + 2 * o.length) = nI 33 then gs_ht s t o.length else gs_ht s t o.length - 1) else gs_ht s t o.length + 1) = (if w = 2 then (if v = 33 then gy_hg o else gy_hg o - 1) else gy_hg o + 1)
      rw [h1', h2', i1]
      by_cases c : w = 2
      · rw [if_pos (w2.mpr c), if_pos c]
        by_cases c3 : v = 33
        · rw [if_pos (v33.mpr c3), if_pos c3]
        · rw [if_neg (fun z => c3 (v33.mp z)), if_neg c3]
      · rw [if_neg (fun z => c (w2.mp z)), if_neg c]
    · by_cases c : k = o.length
      · subst c
        rw [h1', h2', i1]
        refine ⟨fun q => ⟨fun q3 => ?_, fun q3 => ?_⟩, fun q q0 => ?_⟩
        · have q33 := v33.mp q3
          have qw := w2.mp q
          rcases k2 with z | z | z | z
          · omega
          · omega
          · exact z.2.2
          · exact absurd q33 (gy_tn_sg z.2.1).2.1
        · have := w2.mp q
          rcases k2 with z | z | z | z
          · omega
          · omega
          · exact absurd (v33.mpr z.2.1) q3
          · exact z.2.2
        · rcases k2 with z | z | z | z
          · exact absurd (w0.mpr z.1) q0
          · exact ⟨v, rfl, gy_nm_lt z.2, z.2⟩
          · exact absurd (w2.mpr z.1) q
          · exact absurd (w2.mpr z.1) q
      · exact i2 k (by have : ((w, v) :: o).length = o.length + 1 := rfl; omega)
section
variable {d m : Nat} {I I0 : sx_I} {rw : Nat → Nat → Option Nat} {ln : Nat → Nat} {K : sx_K} {T : Nat → Nat} {n a : Nat} {cmp : Nat → Int32}
def gy_tf (t : Nat) (I J : sx_I) : Prop := (∀ q, q ≠ 78 → q ≠ 79 → J q = I q) ∧ (∀ k, (k < 14 ∨ 24 < k) → J 78 k = I 78 k) ∧ J 78 14 = 0 ∧ ∀ q, q < 62 + 200 * t → q ≠ 1 → J 79 q = I 79 q
theorem c_text {t : Nat} (ht : I 79 1 = nI t) (ht14 : t ≤ 14) (hT : gy_bt T n I) (hcmp : cmp 0 = 0)
    (hkF : ∀ J b, gy_pf (gy_a t) I J → gy_read T n cmp = .inl b → K (some (.int (-100 - nI b))) J (sx_run rw m ln))
    (hk14 : t = 14 → ∀ J key o w, gy_pf 2862 I J → gy_read T n cmp = .inr (key, o, w) → K (some (.int (-1000000003))) J (sx_run rw m ln))
    (hkT : t < 14 → ∀ J key o w, gy_tf t I J → gy_read T n cmp = .inr (key, o, w) → (key = 0 ∨ key = nI 1 ∨ key = nI 2) → J 79 1 = nI (t + 1) → J 79 (62 + 200 * t) = key → J 79 (63 + 200 * t) = nI w → gs_tok (J 79) t o.length → gy_out (fun i => J 79 (66 + 200 * t + i)) o → gy_ok key o → K (some (.int (nI t))) J (sx_run rw m ln)) :
    sx_C 187 (d + 67) [.ref 78] I (sx_run rw m ln) K := by
  refine sx_enter (by decide +kernel) (Nat.le_of_ble_eq_true rfl) (sx_go m187 100 rfl (fun VV CC hV hC => ?_))
  have ha1 : 1 < gy_a t := by unfold gy_a; split <;> omega
  refine hC _ _ _ _ _ (c_parse (d := d) ht ht14 hT hcmp (fun J b g1 g2 g3 => ?_) (fun J key o w g1 g2 g3 g4 g5 g6 g7 g8 g9 => ?_))
  · refine ⟨fun z => absurd (show (0 : Int32) ≤ -1 from z) (by decide), fun _ => sx_kk ?_ (hkF J b g1 g3)⟩
    rw [g2]
  · have e1 : J 79 1 = nI t := (g1.2.2.2 1 ha1).trans ht
    have hk0 : 0 ≤ key := by rcases g3 with z | z | z <;> rw [z] <;> decide
    refine ⟨fun _ => ⟨1, ⟨rfl, by omega⟩, fun c => ?_, fun c => ?_⟩, fun z => absurd hk0 z⟩
    · have ct : t < 14 := by
        rcases Nat.lt_or_ge t 14 with z | z
        · exact z
        · exact absurd (e1.trans (by rw [show t = 14 by omega])) c
      have ea : gy_a t = 66 + 200 * t := if_pos ct
      have n1 : nI t + nI 1 = nI (t + 1) := nI_add t 1
      refine ⟨1, ⟨rfl, by omega⟩, hC _ _ _ _ _ (c_textAt (t := t) e1 ?_)⟩
      have z0 : nI (62 + 200 * t) + nI 0 = nI (62 + 200 * t) := nI_add _ 0
      have z1 : nI (62 + 200 * t) + nI 1 = nI (63 + 200 * t) := by rw [nI_add]; congr 1; omega
      have z2 : nI (62 + 200 * t) + nI 2 = nI (64 + 200 * t) := by rw [nI_add]; congr 1; omega
      have fin : ∀ J1 J2 J3 J4 : sx_I, J1 = sx_up J 79 (upd (J 79) (62 + 200 * t) key) → J2 = sx_up J1 79 (upd (J1 79) (63 + 200 * t) (J1 78 24)) → J3 = sx_up J2 79 (upd (J2 79) (64 + 200 * t) (J2 78 22)) → J4 = sx_up J3 79 (upd (J3 79) 1 (J3 79 1 + nI 1)) → K (some (.int (J4 79 1 - nI 1))) J4 (sx_run rw m ln) := by
        intro J1 J2 J3 J4 e1' e2' e3' e4'
        have f1 : J1 79 = upd (J 79) (62 + 200 * t) key := by rw [e1', sx_up_same]
        have n1' : J1 78 = J 78 := by rw [e1']; exact sx_up_ne (by decide)
        have n2' : J2 78 = J 78 := by rw [e2']; exact (sx_up_ne (by decide)).trans n1'
        have f2 : J2 79 = upd (J1 79) (63 + 200 * t) (nI w) := by rw [e2', sx_up_same, n1', g5]
        have f3 : J3 79 = upd (J2 79) (64 + 200 * t) (nI o.length) := by rw [e3', sx_up_same, n2', g4]
        have f31 : J3 79 1 = nI t := by rw [f3, pk_un (by omega), f2, pk_un (by omega), f1, pk_un (by omega)]; exact e1
        have f4 : J4 79 = upd (J3 79) 1 (nI (t + 1)) := by rw [e4', sx_up_same, f31, n1]
        have ne : ∀ q, q ≠ 79 → J4 q = J q := fun q hq => by rw [e4', sx_up_ne hq, e3', sx_up_ne hq, e2', sx_up_ne hq, e1', sx_up_ne hq]
        have at_ : ∀ q, q ≠ 1 → q ≠ 62 + 200 * t → q ≠ 63 + 200 * t → q ≠ 64 + 200 * t → J4 79 q = J 79 q := fun q a1 a2 a3 a4 => by rw [f4, pk_un a1, f3, pk_un a4, f2, pk_un a3, f1, pk_un a2]
        have a62 : J4 79 (62 + 200 * t) = key := by rw [f4, pk_un (by omega), f3, pk_un (by omega), f2, pk_un (by omega), f1, pk_us]
        have a63 : J4 79 (63 + 200 * t) = nI w := by rw [f4, pk_un (by omega), f3, pk_un (by omega), f2, pk_us]
        have a64 : J4 79 (64 + 200 * t) = nI o.length := by rw [f4, pk_un (by omega), f3, pk_us]
        have a1 : J4 79 1 = nI (t + 1) := by rw [f4, pk_us]
        have ho : gy_out (fun i => J4 79 (66 + 200 * t + i)) o := gy_out_cg o (fun i _ => by
          show J4 79 (66 + 200 * t + i) = J 79 (gy_a t + i)
          rw [ea, at_ _ (by omega) (by omega) (by omega) (by omega)]) g6
        have htk := gy_tok (s := J4 79) (t := t) (key := key) o ho g7
        have er : J4 79 1 - nI 1 = nI t := by rw [a1, pk_sub (by omega)]; rfl
        rw [er]
        refine hkT ct J4 key o w ⟨fun q x y => by rw [ne q y]; exact g1.1 q x y, fun k hk => by rw [ne 78 (by decide)]; exact g1.2.1 k hk, by rw [ne 78 (by decide)]; exact g1.2.2.1, fun q hq hq1 => ?_⟩ g2 g3 a1 a62 a63 ⟨ct, a64, g9, by rw [htk.1]; exact g8, fun k hk => by rw [a62]; exact htk.2 k hk⟩ ho g7
        rw [at_ q hq1 (by omega) (by omega) (by omega)]
        exact g1.2.2.2 q (by omega)
      refine ⟨62 + 200 * t, ⟨z0, by omega⟩, 63 + 200 * t, ⟨z1, by omega⟩, 64 + 200 * t, ⟨z2, by omega⟩, 1, ⟨rfl, by omega⟩, 1, ⟨rfl, by omega⟩, 1, ⟨rfl, by omega⟩, ?_⟩
      exact fin _ _ _ _ rfl rfl rfl rfl
    · have ct : t = 14 := (nI_eq (by omega) (by omega)).mp (e1.symm.trans c)
      refine hk14 ct J key o w ?_ g2
      have : gy_a t = 2862 := if_neg (by omega)
      rw [← this]; exact g1
end
