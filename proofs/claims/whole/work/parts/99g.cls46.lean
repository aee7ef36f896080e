/-! ===== the law: its loop ===== -/
section
variable {d N : Nat} {K : sx_K}
set_option maxRecDepth 100000 in
theorem lw_18 (hN2 : N ≤ 3072) (hK : ∀ J G, K (some (.int (nI 1))) J G) : ∀ (r i mc ms : Nat) (I : sx_I) (rw : Nat → Nat → Option Nat) (u : Nat) (ln : Nat → Nat), ln 14 = N → N < i + 6 * (r + 1) → i ≤ 3072 → 3 * r ≤ mc → 196 * r ≤ ms → lw I rw u ln →
    sx_V 229 (d + 68) mc ms K 18 [(0, .ref 14), (1, .ref 15), (2, .ref 78), (3, .int (nI i))] [] I (sx_run rw (3 * u) ln)
  | 0, i, mc, ms, I, rw, u, ln, hN, hr, hi, hm, hs, h => by
    have c0 : nI (ln 14) - nI 6 < nI i := by rw [hN]; exact (lw_6 hN2 (by omega)).mpr (by omega)
    refine sx_go m229 100 rfl (fun VV CC hV hC => ?_)
    exact ⟨fun _ => ⟨Or.inr rfl, hK _ _⟩, fun c => absurd c0 c⟩
  | r + 1, i, mc, ms, I, rw, u, ln, hN, hr, hi, hm, hs, h => by
    obtain ⟨mc', rfl⟩ : ∃ mc', mc = mc' + 3 := ⟨mc - 3, by omega⟩
    obtain ⟨ms', rfl⟩ : ∃ ms', ms = ms' + 196 := ⟨ms - 196, by omega⟩
    have go : i + 6 ≤ N → sx_V 229 (d + 68) (mc' + 3) (ms' + 196) K 18 [(0, .ref 14), (1, .ref 15), (2, .ref 78), (3, .int (nI i))] [] I (sx_run rw (3 * u) ln) := by
      intro c6
      have n1 : ∀ J rw', lw J rw' u ln → sx_V 229 (d + 68) (mc' + 3) (ms' + 196) K 1432 [(0, .ref 14), (1, .ref 15), (2, .ref 78), (3, .int (nI i))] [] J (sx_run rw' (3 * u) ln) := fun J rw' hJ => v1432 (lw_18 hN2 hK r (i + 6) _ _ J rw' u ln hN (by omega) (by omega) (by omega) (by omega) hJ)
      have n2 : ∀ J rw' u' ln', lw J rw' u' ln' → ln' 14 = N → sx_V 229 (d + 68) mc' ms' K 1432 [(0, .ref 14), (1, .ref 15), (2, .ref 78), (3, .int (nI i))] [] J (sx_run rw' (3 * u') ln') := fun J rw' u' ln' hJ hl => v1432 (lw_18 hN2 hK r (i + 6) _ _ J rw' u' ln' hl (by omega) (by omega) (by omega) (by omega) hJ)
      have c0 : ¬ nI (ln 14) - nI 6 < nI i := by rw [hN, lw_6 hN2 (by omega)]; omega
      have lt : i < ln 14 := by omega
      refine sx_go m229 100 rfl (fun VV CC hV hC => ?_)
      refine ⟨fun c => absurd c c0, fun _ => ⟨i, ⟨rfl, lt⟩, ?_⟩⟩
      exact ⟨fun _ => hV _ _ _ _ _ _ _ (lw_c0 h hN c6 n1), fun _ => ⟨fun _ => hV _ _ _ _ _ _ _ (lw_c1 h hN c6 n1), fun _ => ⟨fun _ => hV _ _ _ _ _ _ _ (lw_c2 h hN c6 n1), fun _ => ⟨fun _ => hV _ _ _ _ _ _ _ (lw_c3 h hN c6 n1), fun _ => ⟨fun _ => hV _ _ _ _ _ _ _ (lw_c4 h hN c6 n1), fun _ => ⟨fun _ => hV _ _ _ _ _ _ _ (lw_c5 h hN c6 n1), fun _ => ⟨fun _ => hV _ _ _ _ _ _ _ (lw_c6 h hN c6 n1), fun _ => ⟨fun _ => hV _ _ _ _ _ _ _ (lw_c7 h hN c6 n1), fun _ => ⟨fun _ => hV _ _ _ _ _ _ _ (lw_c8 h hN c6 n1), fun _ => ⟨fun _ => hV _ _ _ _ _ _ _ (lw_c9 h hN c6 n1), fun _ => ⟨fun _ => hV _ _ _ _ _ _ _ (lw_c10 h hN c6 n1), fun _ => ⟨fun _ => hV _ _ _ _ _ _ _ (lw_c11 h hN c6 n1), fun _ => ⟨fun _ => hV _ _ _ _ _ _ _ (lw_c12 h hN c6 n1), fun _ => ⟨fun _ => hV _ _ _ _ _ _ _ (lw_c13 h hN c6 n1), fun _ => ⟨fun _ => hV _ _ _ _ _ _ _ (lw_c14 h hN c6 n1), fun _ => ⟨fun _ => hV _ _ _ _ _ _ _ (lw_c15 h hN c6 n1), fun _ => ⟨fun _ => hV _ _ _ _ _ _ _ (lw_c16 h hN c6 n1), fun _ => ⟨fun _ => hV _ _ _ _ _ _ _ (lw_c17 h hN c6 n1), fun _ => ⟨fun _ => hV _ _ _ _ _ _ _ (lw_c18 h hN c6 n1), fun _ => ⟨fun _ => hV _ _ _ _ _ _ _ (lw_c19 h hN c6 n1), fun _ => ⟨fun _ => hV _ _ _ _ _ _ _ (lw_c20 h hN c6 n1), fun _ => ⟨fun _ => hV _ _ _ _ _ _ _ (lw_c21 h hN c6 n1), fun _ => ⟨fun _ => hV _ _ _ _ _ _ _ (lw_c22 h hN c6 n1), fun _ => ⟨fun _ => hV _ _ _ _ _ _ _ (lw_c23 h hN c6 n1), fun _ => ⟨fun _ => hV _ _ _ _ _ _ _ (lw_c24 h hN c6 n1), fun _ => ⟨fun _ => hV _ _ _ _ _ _ _ (lw_c25 h hN n2), fun _ => ⟨fun _ => hV _ _ _ _ _ _ _ (lw_c26 h hN c6 n1), fun _ => ⟨fun _ => hV _ _ _ _ _ _ _ (lw_c27 h hN c6 n1), fun _ => ⟨fun _ => hV _ _ _ _ _ _ _ (lw_c28 h hN c6 n1), fun _ => ⟨fun _ => hV _ _ _ _ _ _ _ (lw_c29 h hN c6 n1), fun _ => ⟨fun _ => hV _ _ _ _ _ _ _ (lw_c30 h hN c6 n1), fun _ => ⟨fun _ => hV _ _ _ _ _ _ _ (lw_c31 h hN c6 n1), fun _ => ⟨fun _ => hV _ _ _ _ _ _ _ (lw_c32 h hN c6 n1), fun _ => ⟨fun _ => hV _ _ _ _ _ _ _ (lw_c33 h hN c6 n1), fun _ => ⟨fun _ => hV _ _ _ _ _ _ _ (lw_c34 h hN c6 n1), fun _ => ⟨fun _ => hV _ _ _ _ _ _ _ (lw_c35 h hN c6 n1), fun _ => ⟨fun _ => hV _ _ _ _ _ _ _ (lw_c36 h hN c6 n1), fun _ => ⟨fun _ => hV _ _ _ _ _ _ _ (lw_c37 h hN c6 n1), fun _ => ⟨fun _ => hV _ _ _ _ _ _ _ (lw_c38 h hN c6 n1), fun _ => ⟨fun _ => hV _ _ _ _ _ _ _ (lw_c39 h hN c6 n1), fun _ => ⟨fun _ => hV _ _ _ _ _ _ _ (lw_c40 h hN c6 n1), fun _ => ⟨fun _ => hV _ _ _ _ _ _ _ (lw_c41 h hN c6 n1), fun _ => hV _ _ _ _ _ _ _ (n1 I rw h)⟩⟩⟩⟩⟩⟩⟩⟩⟩⟩⟩⟩⟩⟩⟩⟩⟩⟩⟩⟩⟩⟩⟩⟩⟩⟩⟩⟩⟩⟩⟩⟩⟩⟩⟩⟩⟩⟩⟩⟩⟩⟩
    by_cases c6 : i + 6 ≤ N
    · exact go c6
    · have c0 : nI (ln 14) - nI 6 < nI i := by rw [hN]; exact (lw_6 hN2 (by omega)).mpr (by omega)
      refine sx_go m229 100 rfl (fun VV CC hV hC => ?_)
      exact ⟨fun _ => ⟨Or.inr rfl, hK _ _⟩, fun c => absurd c0 c⟩
end
