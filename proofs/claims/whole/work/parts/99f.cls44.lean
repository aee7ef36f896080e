/-! ===== the law: all calls; the start ===== -/
section
variable {VV : sx_VT} {CC : sx_CT} {K : sx_K} {cd cs : List sx_E} {n mc ms pc npc i a : Nat} {x : List Nat} {cv : Value} {L : sx_L} {r : List Value} {I : sx_I} {G : sx_G}
theorem sx_w_ast (h0 : sx_nl L i = true) (h : sx_symG VV CC K cd n mc ms cs (sx_pt L i (.ref a)) r I G) : sx_symG VV CC K cd (n + 1) mc ms ((.astore i, pc, npc, x, cv) :: cs) L (.ref a :: r) I G := by
  simp only [sx_symG, sx_stepG, h0]
  exact h
end
section
variable {d N : Nat} {K : sx_K}
set_option maxRecDepth 100000 in
theorem v1432 {mc ms i : Nat} {I : sx_I} {G : sx_G} (h : sx_V 229 (d + 68) mc ms K 18 [(0, .ref 14), (1, .ref 15), (2, .ref 78), (3, .int (nI (i + 6)))] [] I G) : sx_V 229 (d + 68) mc ms K 1432 [(0, .ref 14), (1, .ref 15), (2, .ref 78), (3, .int (nI i))] [] I G := by
  rw [← nI_add] at h
  exact sx_go m229 20 rfl (fun VV CC hV hC => hV _ _ _ _ _ _ _ h)
theorem lw_6 {i : Nat} (hN : N ≤ 3072) (hi : i ≤ 3078) : nI N - nI 6 < nI i ↔ N < i + 6 := by
  rcases Nat.lt_or_ge N 6 with c | c
  · have : N = 0 ∨ N = 1 ∨ N = 2 ∨ N = 3 ∨ N = 4 ∨ N = 5 := by omega
    have h0 : (0 : Int32) ≤ nI i := nI_le (a := 0) (by omega) (by omega)
    have neg : nI N - nI 6 < 0 := by rcases this with z | z | z | z | z | z <;> subst z <;> decide +kernel
    exact ⟨fun _ => by omega, fun _ => Int32.lt_of_lt_of_le neg h0⟩
  · rw [pk_sub c, nI_ltI (by omega) (by omega)]
    omega
theorem lw_init {I : sx_I} {ln : Nat → Nat} (h0 : iJ0 I) (hS : iS 4 I) (hL : iL 5 I) (h78 : I 78 = fun _ => 0) (h79 : I 79 = upd (upd (upd (upd (upd (fun _ => 0) 11 (nI 1)) 3 (nI 3)) 4 (nI 30)) 5 (nI 200)) 6 (nI 20)) (hz : ∀ q, 80 ≤ q → q ≤ 96 → q ≠ 82 → I q = fun _ => 0) (h82 : ∀ j, j < 4 → I 82 j = -1) : lw I (fun _ _ => none) 0 ln := by
  obtain ⟨⟨a1, a2, a3⟩, ⟨b1, b2, b3, b4⟩, c1, ⟨d1, d2, d3, d4⟩, e1, f1⟩ := h0
  have z79 : ∀ i, i ≠ 3 → i ≠ 4 → i ≠ 5 → i ≠ 6 → i ≠ 11 → I 79 i = 0 := fun i x3 x4 x5 x6 x11 => by
    rw [h79, pk_un x6, pk_un x5, pk_un x4, pk_un x3, pk_un x11]
  have n0 : (0 : Int32) = nI 0 := rfl
  have q80 : ∀ i, I 80 i = 0 := fun i => congrFun (hz 80 (by omega) (by omega) (by omega)) i
  refine ⟨⟨⟨⟨?_, ?_, ?_, ?_⟩, fun w hw k hk => ?_, fun w hw => ?_, fun w hw => ?_, fun w hw => ?_⟩, ⟨⟨⟨0, ?_, by omega⟩, fun k hk => ⟨⟨0, ?_, by omega⟩, ⟨0, ?_, by omega⟩, ⟨0, ?_, by omega⟩, ⟨0, ?_, by omega⟩, Or.inl ?_⟩⟩, 0, 0, ?_, by omega, ?_, by omega⟩, ⟨0, ?_, by omega, fun t ht => absurd ht (Nat.not_lt_zero t), fun _ b _ hb => absurd (show (none : Option Nat) = some b from hb) (by intro z; cases z)⟩⟩,
    ⟨Or.inl ⟨a1, ?_⟩, ⟨⟨⟨0, q80 _, by omega⟩, fun k hk => ⟨⟨0, q80 _, by omega⟩, ⟨0, q80 _, by omega⟩, ⟨0, q80 _, by omega⟩, ⟨0, q80 _, by omega⟩, Or.inl (q80 _)⟩⟩, 0, 0, q80 _, by omega, ?_, by omega⟩, ⟨0, q80 _, by omega, fun t ht => absurd ht (Nat.not_lt_zero t), fun _ b _ hb => absurd (show (none : Option Nat) = some b from hb) (by intro z; cases z)⟩⟩,
    ⟨fun j hj => ⟨?_, ?_, fun i hi => ?_⟩, fun j hj => ⟨Or.inl (h82 j hj), ⟨0, ?_, by omega⟩, fun i hi => ?_⟩⟩, ⟨fun j hj => ⟨?_, fun c => ?_, fun c => ?_, fun c => ?_⟩, fun j hj => ⟨Or.inl ?_, 0, ?_, by omega⟩⟩,
    ⟨0, a2, ?_, by omega, fun i hi => absurd hi (Nat.not_lt_zero i)⟩, ⟨0, a3, ?_, by omega, fun i hi => absurd hi (Nat.not_lt_zero i)⟩, trivial⟩
  · rw [b1, z79 0 (by decide) (by decide) (by decide) (by decide) (by decide)]
  · rw [b2, z79 2 (by decide) (by decide) (by decide) (by decide) (by decide)]
  · rw [b3, h79]; rfl
  · show I 119 1 = _
    rw [b4, z79 1 (by decide) (by decide) (by decide) (by decide) (by decide)]
  · show I (20 + w) k = _
    rw [c1 w hw, z79 _ (by omega) (by omega) (by omega) (by omega) (by omega)]
  · have : w = 0 ∨ w = 1 ∨ w = 2 ∨ w = 3 := by omega
    rw [h79]
    rcases this with z | z | z | z <;> subst z
    · exact d1
    · exact d2
    · exact d3
    · exact d4
  · show I 26 w = _
    rw [e1 w hw, z79 _ (by omega) (by omega) (by omega) (by omega) (by omega)]
  · show I 27 w = _
    rw [f1 w hw, z79 1 (by decide) (by decide) (by decide) (by decide) (by decide)]
    rfl
  · exact z79 0 (by decide) (by decide) (by decide) (by decide) (by decide)
  · exact z79 _ (by omega) (by omega) (by omega) (by omega) (by omega)
  · exact z79 _ (by omega) (by omega) (by omega) (by omega) (by omega)
  · exact z79 _ (by omega) (by omega) (by omega) (by omega) (by omega)
  · exact z79 _ (by omega) (by omega) (by omega) (by omega) (by omega)
  · exact z79 _ (by omega) (by omega) (by omega) (by omega) (by omega)
  · exact z79 2 (by decide) (by decide) (by decide) (by decide) (by decide)
  · unfold gs_raids
    rw [z79 8 (by decide) (by decide) (by decide) (by decide) (by decide), z79 9 (by decide) (by decide) (by decide) (by decide) (by decide)]
    rfl
  · exact z79 1 (by decide) (by decide) (by decide) (by decide) (by decide)
  · exact congrFun h78 3
  · unfold gs_raids
    rw [q80, q80]
    rfl
  · rw [(hS j hj).1, h82 j hj]
  · rw [(hS j hj).2.1]; exact (congrFun (hz 83 (by omega) (by omega) (by omega)) j).symm
  · rw [(hS j hj).2.2]; exact (congrFun (hz 84 (by omega) (by omega) (by omega)) (24 * j + i)).symm
  · exact congrFun (hz 83 (by omega) (by omega) (by omega)) j
  · have e : I 84 (24 * j + i) = 0 := congrFun (hz 84 (by omega) (by omega) (by omega)) (24 * j + i)
    rw [e]; exact Or.inr ⟨by decide +kernel, by decide +kernel⟩
  · rw [hL j hj]; exact (congrFun (hz 85 (by omega) (by omega) (by omega)) j).symm
  · exact absurd (show (0 : Int32) = nI 1 from (congrFun (hz 85 (by omega) (by omega) (by omega)) j).symm.trans c) (by decide +kernel)
  · exact absurd (show (0 : Int32) = nI 2 from (congrFun (hz 85 (by omega) (by omega) (by omega)) j).symm.trans c) (by decide +kernel)
  · exact absurd (show (0 : Int32) = nI 3 from (congrFun (hz 85 (by omega) (by omega) (by omega)) j).symm.trans c) (by decide +kernel)
  · exact congrFun (hz 85 (by omega) (by omega) (by omega)) j
  · exact congrFun (hz 88 (by omega) (by omega) (by omega)) j
  · exact congrFun h78 14
  · exact congrFun h78 29
theorem sx_ws_cg {P : sx_P} {I : sx_I} {R : Nat → Nat → Option Nat} {rw : Nat → Nat → Option Nat} {ln : Nat → Nat} (hR : ∀ q, 15 ≤ q → q < 200 → R q = sx_mkR rw q) : sx_ws P I (R, .inl 100, ln) = sx_ws P I (sx_run rw 0 ln) := by
  show (List.range 85).map _ = (List.range 85).map _
  refine List.map_congr_left (fun i hi => ?_)
  have hi := List.mem_range.mp hi
  have hl := sx_L_at (n := 15 + i) (by omega) (by omega)
  have el : sx_lb (15 + i) = (sx_shL (15 + i)).1 := sx_lb_eq (by omega) (by omega)
  have e := hR (sx_lb (15 + i)) (by rw [el]; exact hl.2.2.2.1) (by rw [el]; exact Nat.lt_succ_of_le hl.2.2.1)
  show (P.2.2.1 + i, sx_ce P (sx_sh (R, .inl 100, ln) (sx_lb (15 + i))) (I (sx_lb (15 + i))) (R (sx_lb (15 + i)))) = (P.2.2.1 + i, sx_ce P (sx_sh (sx_run rw 0 ln) (sx_lb (15 + i))) (I (sx_lb (15 + i))) (sx_mkR rw (sx_lb (15 + i))))
  rw [e]
  rfl
theorem sx_V.cg {j t mc ms pc : Nat} {L : sx_L} {st : List Value} {I : sx_I} {R : Nat → Nat → Option Nat} {rw : Nat → Nat → Option Nat} {ln : Nat → Nat} (hR : ∀ q, 15 ≤ q → q < 200 → R q = sx_mkR rw q) (h : sx_V j t mc ms K pc L st I (sx_run rw 0 ln)) : sx_V j t mc ms K pc L st I (R, .inl 100, ln) := by
  intro P p l e R0 s m args below meth c mcT msT H locs cells slots ls a1 a2 a3 a4 a5 a6
  obtain ⟨r1, r2, r3, r4, r5, r6⟩ := a5
  rw [sx_ws_cg hR] at r2
  exact h P p l e R0 s m args below meth c mcT msT H locs cells slots ls a1 a2 a3 a4 ⟨r1, r2, r3, r4, r5, r6⟩ a6
end
