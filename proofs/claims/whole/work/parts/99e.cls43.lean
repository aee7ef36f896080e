/-! ===== the constructors: the whole class, the whole reference ===== -/
section
variable {VV : sx_VT} {CC : sx_CT} {K : sx_K} {cd cs : List sx_E} {n mc ms pc npc i ci k N t n0 p0 na c1 c2 a : Nat} {x : List Nat} {cv : Value} {L : sx_L} {st r as : List Value} {I : sx_I} {R : Nat → Nat → Option Nat} {ln : Nat → Nat} {G : sx_G}
theorem sx_w_c (h : sx_symG VV CC K cd n mc ms cs L (cv :: r) I G) : sx_symG VV CC K cd (n + 1) mc ms ((.nop, pc, npc, x, cv) :: cs) L r I G := h
theorem sx_w_newa {a0 : ArrayType} {x1 : Int32} (hsh : sx_shL p0 = (n0, 1, t, N)) (h1 : 1 ≤ mc) (h2 : N ≤ ms) (h15 : 15 ≤ p0) (h96 : p0 ≤ 99) (hx : x1 = nI N) (h : sx_symG VV CC K cd n (mc - 1) (ms - N) cs L (.ref n0 :: r) (sx_up I n0 (fun _ => 0)) (R, .inl (p0 + 1), ln)) : sx_symG VV CC K cd (n + 1) mc ms ((.newarray a0, pc, npc, t :: N :: x, cv) :: cs) L (.int x1 :: r) I (R, .inl p0, ln) := by
  simp only [sx_symG, sx_stepG, hsh, sx_blet h1, sx_blet h2, sx_blet h15, sx_blet h96, Nat.beq_refl, Bool.and_true]
  exact ⟨hx, h⟩
theorem sx_w_anew {x1 : Int32} (hsh : sx_shL p0 = (n0, 1, t, N)) (h1 : 1 ≤ mc) (h2 : N ≤ ms) (h15 : 15 ≤ p0) (h96 : p0 ≤ 99) (hx : x1 = nI N) (h : sx_symG VV CC K cd n (mc - 1) (ms - N) cs L (.ref n0 :: r) I (sx_upR R n0 (fun _ => none), .inl (p0 + 1), ln)) : sx_symG VV CC K cd (n + 1) mc ms ((.anewarray i, pc, npc, t :: N :: x, cv) :: cs) L (.int x1 :: r) I (R, .inl p0, ln) := by
  simp only [sx_symG, sx_stepG, hsh, sx_blet h1, sx_blet h2, sx_blet h15, sx_blet h96, Nat.beq_refl, Bool.and_true]
  exact ⟨hx, h⟩
theorem sx_w_new (hsh : sx_shL p0 = (n0, 0, ci, N)) (h1 : 1 ≤ mc) (h2 : N ≤ ms) (h15 : 15 ≤ p0) (h96 : p0 ≤ 99) (h : sx_symG VV CC K cd n (mc - 1) (ms - N) cs L (.ref n0 :: st) (sx_up I n0 (fun _ => 0)) (sx_upR R n0 (fun _ => none), .inl (p0 + 1), ln)) : sx_symG VV CC K cd (n + 1) mc ms ((.new i, pc, npc, ci :: N :: x, cv) :: cs) L st I (R, .inl p0, ln) := by
  simp only [sx_symG, sx_stepG, hsh, sx_blet h1, sx_blet h2, sx_blet h15, sx_blet h96, Nat.beq_refl, Bool.and_true]
  exact h
theorem sx_w_spec (hp : sx_pop na st [] = some (.ref a :: as, r)) (h1 : c1 ≤ mc) (h2 : c2 ≤ ms) (hl : Nat.ble r.length 4 = true) (h : CC t (.ref a :: as) I G (fun v I2 G2 => sx_symG VV CC K cd n (mc - c1) (ms - c2) cs L (sx_psh v r) I2 G2)) : sx_symG VV CC K cd (n + 1) mc ms ((.invokespecial i, pc, npc, t :: na :: c1 :: c2 :: x, cv) :: cs) L st I G := by
  simp only [sx_symG, sx_stepG, hp, sx_blet h1, sx_blet h2, hl, Bool.and_true]
  exact h
theorem sx_w_putz {v : Int32} (hal : sx_al G a = true) (hsh : sx_sh G a = (0, ci, N)) (hv : v = 0 ∨ v = 1) (h : sx_symG VV CC K cd n mc ms cs L r (sx_up I a (upd (I a) k v)) G) : sx_symG VV CC K cd (n + 1) mc ms ((.putfield i, pc, npc, ci :: k :: 2 :: x, cv) :: cs) L (.int v :: .ref a :: r) I G := by
  simp only [sx_symG, sx_stepG, hal, hsh, Nat.beq_refl]
  exact ⟨hv, h⟩
end
theorem sx_absQ {P : (Nat → Nat → Option Nat) → Prop} {R : Nat → Nat → Option Nat} (Q : (Nat → Nat → Option Nat) → Prop) (hQ : Q R) (h : ∀ R, Q R → P R) : P R := h R hQ
theorem i_junk_all : (List.range 200).all (fun q => Nat.blt q 97 || Nat.beq q 119 || Nat.beq q 128 || Nat.beq q 137 || (sx_SRrow q).isEmpty) = true := by decide +kernel
theorem i_junk {q : Nat} (h : 97 ≤ q ∧ q < 200 ∧ q ≠ 119 ∧ q ≠ 128 ∧ q ≠ 137) : sx_mkR (fun _ _ => none) q = fun _ => none := by
  have hs := List.all_eq_true.mp i_junk_all q (List.mem_range.mpr (by omega))
  rw [show Nat.blt q 97 = false from sx_ble_no (by omega), sx_bf.mpr h.2.2.1, sx_bf.mpr h.2.2.2.1, sx_bf.mpr h.2.2.2.2] at hs
  simp only [Bool.false_or, List.isEmpty_iff] at hs
  funext k
  unfold sx_mkR
  rw [Nat.ble_eq_true_of_le (show q ≤ 199 by omega), hs]
  simp only [cond_true, List.getD_nil]
  cases Nat.beq q 120 with
  | true => rfl
  | false =>
    cases Nat.beq q 129 with
    | true => rfl
    | false =>
      cases Nat.beq q 138 with
      | true => rfl
      | false => rfl
/-- the references while the class is made: ids below cur are made (but 15, 51, 52), and books below bc -/
def iM (cur bc : Nat) (g : Nat → Option Nat) (R : Nat → Nat → Option Nat) : Prop := (∀ q, 15 < q → q < cur → q ≠ 51 → q ≠ 52 → R q = sx_mkR (fun _ _ => none) q) ∧ (∀ q, cur ≤ q → q < 100 → R q = fun _ => none) ∧ R 15 = g ∧ R 51 = (fun _ => none) ∧ R 52 = (fun _ => none) ∧ (∀ q, 100 ≤ q → q < bc → R q = sx_mkR (fun _ _ => none) q) ∧ (∀ q, bc ≤ q → q < 200 → R q = fun _ => none)
theorem iM.obj {n m bc : Nat} {g : Nat → Option Nat} {R : Nat → Nat → Option Nat} (h : iM n bc g R) (hn : 15 < n) (h51 : n < 51) (hm : n < m) (hm2 : m < 100) (hmk : ∀ q, n < q → q < m → sx_mkR (fun _ _ => none) q = fun _ => none) (hbc : 100 ≤ bc) : iM m bc g (sx_upR (sx_upR R n (fun _ => none)) n (sx_mkR (fun _ _ => none) n)) := by
  obtain ⟨a1, a2, a3, a4, a5, a6, a7⟩ := h
  refine ⟨fun q h1 h2 h3 h4 => ?_, fun q hq hq2 => ?_, ?_, ?_, ?_, fun q h1 h2 => ?_, fun q h1 h2 => ?_⟩
  · by_cases z : q = n
    · rw [z, sx_upR_same]
    · rw [sx_upR_ne z, sx_upR_ne z]
      by_cases y : q < n
      · exact a1 q h1 y h3 h4
      · rw [a2 q (by omega) (by omega), hmk q (by omega) h2]
  · rw [sx_upR_ne (by omega), sx_upR_ne (by omega)]; exact a2 q (by omega) hq2
  · rw [sx_upR_ne (by omega), sx_upR_ne (by omega)]; exact a3
  · rw [sx_upR_ne (by omega), sx_upR_ne (by omega)]; exact a4
  · rw [sx_upR_ne (by omega), sx_upR_ne (by omega)]; exact a5
  · rw [sx_upR_ne (by omega), sx_upR_ne (by omega)]; exact a6 q h1 h2
  · rw [sx_upR_ne (by omega), sx_upR_ne (by omega)]; exact a7 q h1 h2
/-- a border with its book -/
theorem iM.bord {n bc : Nat} {g : Nat → Option Nat} {R : Nat → Nat → Option Nat} (h : iM n bc g R) (hn : 15 < n) (h51 : n < 40) (hmk : ∀ q, n < q → q < n + 9 → sx_mkR (fun _ _ => none) q = fun _ => none) (hbc : 100 ≤ bc) (hbn : bc ≤ n + 100) (hj : ∀ q, bc ≤ q → q < n + 100 → sx_mkR (fun _ _ => none) q = fun _ => none) (hw : sx_mkR (fun _ _ => none) (n + 101) = fun _ => none) : iM (n + 9) (n + 102) g (sx_upR (sx_upR (sx_upR R n (fun _ => none)) n (sx_mkR (fun _ _ => none) n)) (n + 100) (sx_mkR (fun _ _ => none) (n + 100))) := by
  obtain ⟨a1, a2, a3, a4, a5, a6, a7⟩ := h
  refine ⟨fun q h1 h2 h3 h4 => ?_, fun q hq hq2 => ?_, ?_, ?_, ?_, fun q h1 h2 => ?_, fun q h1 h2 => ?_⟩
  · rw [sx_upR_ne (by omega)]
    by_cases z : q = n
    · rw [z, sx_upR_same]
    · rw [sx_upR_ne z, sx_upR_ne z]
      by_cases y : q < n
      · exact a1 q h1 y h3 h4
      · rw [a2 q (by omega) (by omega), hmk q (by omega) h2]
  · rw [sx_upR_ne (by omega), sx_upR_ne (by omega), sx_upR_ne (by omega)]; exact a2 q (by omega) hq2
  · rw [sx_upR_ne (by omega), sx_upR_ne (by omega), sx_upR_ne (by omega)]; exact a3
  · rw [sx_upR_ne (by omega), sx_upR_ne (by omega), sx_upR_ne (by omega)]; exact a4
  · rw [sx_upR_ne (by omega), sx_upR_ne (by omega), sx_upR_ne (by omega)]; exact a5
  · by_cases z : q = n + 100
    · rw [z, sx_upR_same]
    · rw [sx_upR_ne z, sx_upR_ne (by omega), sx_upR_ne (by omega)]
      by_cases y : q < bc
      · exact a6 q h1 y
      · rw [a7 q (by omega) (by omega)]
        by_cases x : q < n + 100
        · exact (hj q (by omega) x).symm
        · rw [show q = n + 101 by omega]; exact hw.symm
  · rw [sx_upR_ne (by omega), sx_upR_ne (by omega), sx_upR_ne (by omega)]; exact a7 q (by omega) h2
theorem iM.put {n bc k b : Nat} {g : Nat → Option Nat} {R : Nat → Nat → Option Nat} (h : iM n bc g R) (hn : 15 < n) (hbc : 100 ≤ bc) : iM n bc (iput g k b) (sx_upR R 15 (fun i => if i = k then some b else R 15 i)) := by
  obtain ⟨a1, a2, a3, a4, a5, a6, a7⟩ := h
  refine ⟨fun q h1 h2 h3 h4 => ?_, fun q hq hq2 => ?_, ?_, ?_, ?_, fun q h1 h2 => ?_, fun q h1 h2 => ?_⟩
  · rw [sx_upR_ne (by omega)]; exact a1 q h1 h2 h3 h4
  · rw [sx_upR_ne (by omega)]; exact a2 q hq hq2
  · rw [sx_upR_same, a3]; rfl
  · rw [sx_upR_ne (by omega)]; exact a4
  · rw [sx_upR_ne (by omega)]; exact a5
  · rw [sx_upR_ne (by omega)]; exact a6 q h1 h2
  · rw [sx_upR_ne (by omega)]; exact a7 q h1 h2
theorem iM.arr {n bc : Nat} {g : Nat → Option Nat} {R : Nat → Nat → Option Nat} (h : iM n bc g R) (hn : n < 99) (hmk : sx_mkR (fun _ _ => none) n = fun _ => none) : iM (n + 1) bc g R := by
  obtain ⟨a1, a2, a3, a4, a5, a6, a7⟩ := h
  refine ⟨fun q h1 h2 h3 h4 => ?_, fun q hq hq2 => a2 q (by omega) hq2, a3, a4, a5, a6, a7⟩
  by_cases y : q < n
  · exact a1 q h1 y h3 h4
  · have e : q = n := by omega
    rw [e, a2 n (Nat.le_refl n) (by omega), hmk]
theorem iM.anw {n bc : Nat} {g : Nat → Option Nat} {R : Nat → Nat → Option Nat} (h : iM n bc g R) (hn : n = 51 ∨ n = 52) (hbc : 100 ≤ bc) : iM (n + 1) bc g (sx_upR R n (fun _ => none)) := by
  obtain ⟨a1, a2, a3, a4, a5, a6, a7⟩ := h
  refine ⟨fun q h1 h2 h3 h4 => ?_, fun q hq hq2 => ?_, ?_, ?_, ?_, fun q h1 h2 => ?_, fun q h1 h2 => ?_⟩
  · rw [sx_upR_ne (by omega)]; exact a1 q h1 (by omega) h3 h4
  · rw [sx_upR_ne (by omega)]; exact a2 q (by omega) hq2
  · rw [sx_upR_ne (by omega)]; exact a3
  · by_cases z : n = 51
    · rw [z, sx_upR_same]
    · rw [sx_upR_ne (by omega)]; exact a4
  · by_cases z : n = 52
    · rw [z, sx_upR_same]
    · rw [sx_upR_ne (by omega)]; exact a5
  · rw [sx_upR_ne (by omega)]; exact a6 q h1 h2
  · rw [sx_upR_ne (by omega)]; exact a7 q h1 h2
section
variable {d : Nat} {I : sx_I} {R : Nat → Nat → Option Nat} {ln : Nat → Nat} {K : sx_K}
set_option maxRecDepth 100000 in
theorem i_main (h0 : I 15 = fun _ => 0) (hk : ∀ J R', (∀ q, 15 ≤ q → q < 78 → R' q = sx_mkR (fun _ _ => none) q) → (∀ q, 78 ≤ q → q < 100 → R' q = fun _ => none) → (∀ q, 100 ≤ q → q < 200 → R' q = sx_mkR (fun _ _ => none) q) → iJ0 J → iS 4 J → iL 5 J → K none J (R', .inl 81, ln)) :
    sx_C 58 (d + 4) [.ref 15] I (sx_upR (fun _ _ => none) 15 (fun _ => none), .inl 16, ln) K := by
  refine sx_enter (by decide +kernel) (Nat.le_of_ble_eq_true rfl) (sx_go m58 100 rfl (fun VV CC hV hC => ?_))
  refine sx_s_al (n := 99) (cs := x58_1) rfl ?_
  refine sx_w_jsr (cs := x58_4) rfl ?_
  refine sx_absQ (P := fun R => sx_symG VV CC K _ _ _ _ _ _ _ _ (R, _, _)) (iM 19 100 (fun _ => none)) (⟨fun q h1 h2 _ _ => by
      have : q = 16 ∨ q = 17 ∨ q = 18 := by omega
      rcases this with z | z | z <;> subst z <;> rfl, fun q hq _ => sx_upR_ne (by omega), sx_upR_same, rfl, rfl, fun q h1 h2 => absurd h2 (by omega), fun q h1 h2 => sx_upR_ne (by omega)⟩) (fun R r0 => ?_)
  refine sx_s_al (cs := x58_5) rfl ?_
  refine sx_w_new (cs := x58_8) (p0 := 16) rfl (Nat.le_of_ble_eq_true rfl) (Nat.le_of_ble_eq_true rfl) (by decide) (by decide) ?_
  refine sx_w_dup (cs := x58_9) ?_
  refine sx_w_spec (cs := x58_12) (a := 19) (as := []) (r := [.ref 19, .ref 15]) rfl (Nat.le_of_ble_eq_true rfl) (Nat.le_of_ble_eq_true rfl) rfl ?_
  refine hC _ _ _ _ _ (i_border_19 (d := d + 1) sx_upR_same ((sx_upR_ne (by decide)).trans (r0.2.2.2.2.2.2 120 (by decide) (by decide))) (sx_up_same _ _ _) (fun J2 f2 a1 a2 a3 a4 a5 => ?_))
  refine sx_absQ (P := fun R => sx_symG VV CC K _ _ _ _ _ _ _ _ (R, _, _)) (iM 28 121 (fun _ => none)) (r0.bord (by decide) (by decide) (fun q h1 h2 => by
      have : q = 20 ∨ q = 21 ∨ q = 22 ∨ q = 23 ∨ q = 24 ∨ q = 25 ∨ q = 26 ∨ q = 27 := by omega
      rcases this with z | z | z | z | z | z | z | z <;> subst z <;> rfl) (by decide) (by decide) (fun q h1 h2 => i_junk (by omega)) rfl) (fun R r1 => ?_)
  refine sx_w_putr (cs := x58_15) rfl rfl ?_
  refine sx_absQ (P := fun R => sx_symG VV CC K _ _ _ _ _ _ _ _ (R, _, _)) (iM 28 121 (iput (fun _ => none) 1 19)) (r1.put (by decide) (by decide)) (fun R r2 => ?_)
  refine sx_s_al (cs := x58_16) rfl ?_
  refine sx_w_new (cs := x58_19) (p0 := 27) rfl (Nat.le_of_ble_eq_true rfl) (Nat.le_of_ble_eq_true rfl) (by decide) (by decide) ?_
  refine sx_w_dup (cs := x58_20) ?_
  refine sx_w_spec (cs := x58_23) (a := 28) (as := []) (r := [.ref 28, .ref 15]) rfl (Nat.le_of_ble_eq_true rfl) (Nat.le_of_ble_eq_true rfl) rfl ?_
  refine hC _ _ _ _ _ (i_border_28 (d := d + 1) sx_upR_same ((sx_upR_ne (by decide)).trans (r2.2.2.2.2.2.2 129 (by decide) (by decide))) (sx_up_same _ _ _) (fun J3 f3 _ _ _ _ _ => ?_))
  refine sx_absQ (P := fun R => sx_symG VV CC K _ _ _ _ _ _ _ _ (R, _, _)) (iM 37 130 (iput (fun _ => none) 1 19)) (r2.bord (by decide) (by decide) (fun q h1 h2 => by
      have : q = 29 ∨ q = 30 ∨ q = 31 ∨ q = 32 ∨ q = 33 ∨ q = 34 ∨ q = 35 ∨ q = 36 := by omega
      rcases this with z | z | z | z | z | z | z | z <;> subst z <;> rfl) (by decide) (by decide) (fun q h1 h2 => i_junk (by omega)) rfl) (fun R r3 => ?_)
  refine sx_w_putr (cs := x58_26) rfl rfl ?_
  refine sx_absQ (P := fun R => sx_symG VV CC K _ _ _ _ _ _ _ _ (R, _, _)) (iM 37 130 (iput (iput (fun _ => none) 1 19) 2 28)) (r3.put (by decide) (by decide)) (fun R r4 => ?_)
  refine sx_s_al (cs := x58_27) rfl ?_
  refine sx_w_new (cs := x58_30) (p0 := 38) rfl (Nat.le_of_ble_eq_true rfl) (Nat.le_of_ble_eq_true rfl) (by decide) (by decide) ?_
  refine sx_w_dup (cs := x58_31) ?_
  refine sx_w_spec (cs := x58_34) (a := 37) (as := []) (r := [.ref 37, .ref 15]) rfl (Nat.le_of_ble_eq_true rfl) (Nat.le_of_ble_eq_true rfl) rfl ?_
  refine hC _ _ _ _ _ (i_border_37 (d := d + 1) sx_upR_same ((sx_upR_ne (by decide)).trans (r4.2.2.2.2.2.2 138 (by decide) (by decide))) (sx_up_same _ _ _) (fun J4 f4 _ _ _ _ _ => ?_))
  refine sx_absQ (P := fun R => sx_symG VV CC K _ _ _ _ _ _ _ _ (R, _, _)) (iM 46 139 (iput (iput (fun _ => none) 1 19) 2 28)) (r4.bord (by decide) (by decide) (fun q h1 h2 => by
      have : q = 38 ∨ q = 39 ∨ q = 40 ∨ q = 41 ∨ q = 42 ∨ q = 43 ∨ q = 44 ∨ q = 45 := by omega
      rcases this with z | z | z | z | z | z | z | z <;> subst z <;> rfl) (by decide) (by decide) (fun q h1 h2 => i_junk (by omega)) rfl) (fun R r5 => ?_)
  refine sx_w_putr (cs := x58_37) rfl rfl ?_
  refine sx_absQ (P := fun R => sx_symG VV CC K _ _ _ _ _ _ _ _ (R, _, _)) (iM 46 139 (iput (iput (iput (fun _ => none) 1 19) 2 28) 3 37)) (r5.put (by decide) (by decide)) (fun R r6 => ?_)
  refine sx_s_al (cs := x58_38) rfl ?_
  refine sx_w_c (cs := x58_39) ?_
  refine sx_w_putz (cs := x58_42) rfl rfl (Or.inl rfl) ?_
  refine sx_s_al (cs := x58_43) rfl ?_
  refine sx_w_new (cs := x58_46) (p0 := 49) rfl (Nat.le_of_ble_eq_true rfl) (Nat.le_of_ble_eq_true rfl) (by decide) (by decide) ?_
  refine sx_w_dup (cs := x58_47) ?_
  refine sx_w_spec (cs := x58_50) (a := 46) (as := []) (r := [.ref 46, .ref 15]) rfl (Nat.le_of_ble_eq_true rfl) (Nat.le_of_ble_eq_true rfl) rfl ?_
  refine hC _ _ _ _ _ (i_reader (d := d + 2) sx_upR_same (fun J5 f5 => ?_))
  refine sx_absQ (P := fun R => sx_symG VV CC K _ _ _ _ _ _ _ _ (R, _, _)) (iM 50 139 (iput (iput (iput (fun _ => none) 1 19) 2 28) 3 37)) (r6.obj (by decide) (by decide) (by decide) (by decide) (fun q h1 h2 => by
      have : q = 47 ∨ q = 48 ∨ q = 49 := by omega
      rcases this with z | z | z <;> subst z <;> rfl) (by decide)) (fun R r7 => ?_)
  refine sx_w_putr (cs := x58_53) rfl rfl ?_
  refine sx_absQ (P := fun R => sx_symG VV CC K _ _ _ _ _ _ _ _ (R, _, _)) (iM 50 139 (iput (iput (iput (iput (fun _ => none) 1 19) 2 28) 3 37) 5 46)) (r7.put (by decide) (by decide)) (fun R r8 => ?_)
  have g : ∀ q, (18 < q ∧ q < 28) ∨ q = 119 → J5 q = J2 q := fun q x => by
    rw [f5 q (by omega), sx_up_ne (by omega), sx_up_ne (by omega), f4 q (by omega) (by omega), sx_up_ne (by omega), f3 q (by omega) (by omega), sx_up_ne (by omega)]
  have g15 : J5 15 = upd (fun _ => 0) 4 (nI 0) := by
    rw [f5 15 (by omega), sx_up_ne (by decide), sx_up_same, f4 15 (by omega) (by omega), sx_up_ne (by decide), f3 15 (by omega) (by omega), sx_up_ne (by decide), f2 15 (by omega) (by omega), sx_up_ne (by decide), h0]
  have fin : ∀ J6 J7 J8 J9 J : sx_I, J6 = sx_up J5 50 (fun _ => 0) → J7 = sx_up J6 15 (upd (J6 15) 7 (nI 0)) → J8 = sx_up J7 53 (fun _ => 0) → J9 = sx_up J8 15 (upd (J8 15) 11 (nI 0)) → J = sx_up J9 54 (fun _ => 0) → iJ0 J := by
    intro J6 J7 J8 J9 J e6 e7 e8 e9 e
    have e15 : J 15 = upd (upd (upd (fun _ => 0) 4 (nI 0)) 7 (nI 0)) 11 (nI 0) := by
      rw [e, sx_up_ne (by decide), e9, sx_up_same, e8, sx_up_ne (by decide), e7, sx_up_same, e6, sx_up_ne (by decide), g15]
    have eq : ∀ q, (18 < q ∧ q < 28) ∨ q = 119 → J q = J2 q := fun q x => by
      rw [e, sx_up_ne (by omega), e9, sx_up_ne (by omega), e8, sx_up_ne (by omega), e7, sx_up_ne (by omega), e6, sx_up_ne (by omega)]; exact g q x
    refine ⟨?_, ?_, fun w hw => ?_, ?_, fun w hw => ?_, fun w hw => ?_⟩
    · rw [e15]; exact ⟨rfl, rfl, rfl⟩
    · rw [eq 19 (by omega), eq 119 (by omega)]; exact a1
    · rw [eq _ (by omega)]; exact a2 w hw
    · rw [eq 25 (by omega)]; exact a3
    · rw [eq 26 (by omega)]; exact a4 w hw
    · rw [eq 27 (by omega)]; exact a5 w hw
  refine sx_s_al (cs := x58_54) rfl ?_
  refine sx_w_c (cs := x58_56) ?_
  refine sx_w_newa (cs := x58_58) (p0 := 53) rfl (Nat.le_of_ble_eq_true rfl) (Nat.le_of_ble_eq_true rfl) (by decide) (by decide) rfl ?_
  refine sx_absQ (P := fun R => sx_symG VV CC K _ _ _ _ _ _ _ _ (R, _, _)) (iM 51 139 (iput (iput (iput (iput (fun _ => none) 1 19) 2 28) 3 37) 5 46)) (r8.arr (by decide) rfl) (fun R r9 => ?_)
  refine sx_w_putr (cs := x58_61) rfl rfl ?_
  refine sx_absQ (P := fun R => sx_symG VV CC K _ _ _ _ _ _ _ _ (R, _, _)) (iM 51 139 (iput (iput (iput (iput (iput (fun _ => none) 1 19) 2 28) 3 37) 5 46) 6 50)) (r9.put (by decide) (by decide)) (fun R r10 => ?_)
  refine sx_s_al (cs := x58_62) rfl ?_
  refine sx_w_c (cs := x58_63) ?_
  refine sx_w_puti (cs := x58_66) rfl rfl ?_
  refine sx_s_al (cs := x58_67) rfl ?_
  refine sx_w_c (cs := x58_68) ?_
  refine sx_w_anew (cs := x58_71) (p0 := 54) rfl (Nat.le_of_ble_eq_true rfl) (Nat.le_of_ble_eq_true rfl) (by decide) (by decide) rfl ?_
  refine sx_absQ (P := fun R => sx_symG VV CC K _ _ _ _ _ _ _ _ (R, _, _)) (iM 52 139 (iput (iput (iput (iput (iput (fun _ => none) 1 19) 2 28) 3 37) 5 46) 6 50)) (r10.anw (Or.inl rfl) (by decide)) (fun R r11 => ?_)
  refine sx_w_putr (cs := x58_74) rfl rfl ?_
  refine sx_absQ (P := fun R => sx_symG VV CC K _ _ _ _ _ _ _ _ (R, _, _)) (iM 52 139 (iput (iput (iput (iput (iput (iput (fun _ => none) 1 19) 2 28) 3 37) 5 46) 6 50) 8 51)) (r11.put (by decide) (by decide)) (fun R r12 => ?_)
  refine sx_s_al (cs := x58_75) rfl ?_
  refine sx_w_c (cs := x58_76) ?_
  refine sx_w_anew (cs := x58_79) (p0 := 55) rfl (Nat.le_of_ble_eq_true rfl) (Nat.le_of_ble_eq_true rfl) (by decide) (by decide) rfl ?_
  refine sx_absQ (P := fun R => sx_symG VV CC K _ _ _ _ _ _ _ _ (R, _, _)) (iM 53 139 (iput (iput (iput (iput (iput (iput (fun _ => none) 1 19) 2 28) 3 37) 5 46) 6 50) 8 51)) (r12.anw (Or.inr rfl) (by decide)) (fun R r13 => ?_)
  refine sx_w_putr (cs := x58_82) rfl rfl ?_
  refine sx_absQ (P := fun R => sx_symG VV CC K _ _ _ _ _ _ _ _ (R, _, _)) (iM 53 139 (iput (iput (iput (iput (iput (iput (iput (fun _ => none) 1 19) 2 28) 3 37) 5 46) 6 50) 8 51) 9 52)) (r13.put (by decide) (by decide)) (fun R r14 => ?_)
  refine sx_s_al (cs := x58_83) rfl ?_
  refine sx_w_c (cs := x58_85) ?_
  refine sx_w_newa (cs := x58_87) (p0 := 56) rfl (Nat.le_of_ble_eq_true rfl) (Nat.le_of_ble_eq_true rfl) (by decide) (by decide) rfl ?_
  refine sx_absQ (P := fun R => sx_symG VV CC K _ _ _ _ _ _ _ _ (R, _, _)) (iM 54 139 (iput (iput (iput (iput (iput (iput (iput (fun _ => none) 1 19) 2 28) 3 37) 5 46) 6 50) 8 51) 9 52)) (r14.arr (by decide) rfl) (fun R r15 => ?_)
  refine sx_w_putr (cs := x58_90) rfl rfl ?_
  refine sx_absQ (P := fun R => sx_symG VV CC K _ _ _ _ _ _ _ _ (R, _, _)) (iM 54 139 (iput (iput (iput (iput (iput (iput (iput (iput (fun _ => none) 1 19) 2 28) 3 37) 5 46) 6 50) 8 51) 9 52) 10 53)) (r15.put (by decide) (by decide)) (fun R r16 => ?_)
  refine sx_s_al (cs := x58_91) rfl ?_
  refine sx_w_c (cs := x58_92) ?_
  refine sx_w_puti (cs := x58_95) rfl rfl ?_
  refine sx_s_al (cs := x58_96) rfl ?_
  refine sx_w_c (cs := x58_98) ?_
  refine sx_w_newa (cs := x58_100) (p0 := 57) rfl (Nat.le_of_ble_eq_true rfl) (Nat.le_of_ble_eq_true rfl) (by decide) (by decide) rfl ?_
  refine sx_absQ (P := fun R => sx_symG VV CC K _ _ _ _ _ _ _ _ (R, _, _)) (iM 55 139 (iput (iput (iput (iput (iput (iput (iput (iput (fun _ => none) 1 19) 2 28) 3 37) 5 46) 6 50) 8 51) 9 52) 10 53)) (r16.arr (by decide) rfl) (fun R r17 => ?_)
  refine sx_w_putr (cs := x58_103) rfl rfl ?_
  refine sx_absQ (P := fun R => sx_symG VV CC K _ _ _ _ _ _ _ _ (R, _, _)) (iM 55 139 (iput (iput (iput (iput (iput (iput (iput (iput (iput (fun _ => none) 1 19) 2 28) 3 37) 5 46) 6 50) 8 51) 9 52) 10 53) 0 54)) (r17.put (by decide) (by decide)) (fun R r18 => ?_)
  have row : (iput (iput (iput (iput (iput (iput (iput (iput (iput (fun _ => none) 1 19) 2 28) 3 37) 5 46) 6 50) 8 51) 9 52) 10 53) 0 54) = sx_mkR (fun _ _ => none) 15 := by
    funext k
    match k with
    | 0 => rfl
    | 1 => rfl
    | 2 => rfl
    | 3 => rfl
    | 4 => rfl
    | 5 => rfl
    | 6 => rfl
    | 7 => rfl
    | 8 => rfl
    | 9 => rfl
    | 10 => rfl
    | 11 => rfl
    | k + 12 => rfl
  refine hV _ _ _ _ _ _ _ (v_sh_55 (d := d + 1) ⟨fun q h1 h2 h3 h4 => ?_, fun q hq hq2 => r18.2.1 q hq hq2, fun j => ?_, r18.2.2.2.2.1, fun q h1 h2 => ?_⟩ (fin _ _ _ _ _ rfl rfl rfl rfl rfl) (fun j hj => absurd hj (Nat.not_lt_zero j)) hk)
  · by_cases z : q = 15
    · rw [z, r18.2.2.1, row]
    · exact r18.1 q (by omega) h2 h3 h4
  · rw [if_neg (Nat.not_lt_zero j), r18.2.2.2.1]
  · by_cases z : q < 139
    · exact r18.2.2.2.2.2.1 q h1 z
    · rw [r18.2.2.2.2.2.2 q (by omega) h2]; exact (i_junk (by omega)).symm
set_option maxRecDepth 100000 in
theorem v_model {I0 : sx_I} (hR : R 78 4 = some 82) (hk : ∀ J, (∀ q, q ≠ 82 → J q = I0 q) → (∀ j, j < 4 → J 82 j = -1) → K none J (R, .inl 100, ln)) :
    ∀ (r k : Nat) (J : sx_I), k + r = 4 → (∀ q, q ≠ 82 → J q = I0 q) → (∀ j, j < k → J 82 j = -1) → sx_V 112 (d + 1) 0 0 K 189 [(0, .ref 78), (1, .int (nI k))] [] J (R, .inl 100, ln)
  | 0, k, J, h, h1, h2 => by
    have e : k = 4 := by omega
    subst e
    refine sx_go m112 100 rfl (fun VV CC hV hC => ?_)
    exact ⟨fun _ => hk J h1 h2, fun (c : ¬ nI 4 ≤ nI 4) => absurd (Int32.le_refl _) c⟩
  | r + 1, k, J, h, h1, h2 => by
    have nx := v_model hR hk r (k + 1) (sx_up J 82 (upd (J 82) k (-1))) (by omega) (fun q hq => (sx_up_ne hq).trans (h1 q hq)) (fun j hj => by
      rw [sx_up_same]
      by_cases z : j = k
      · rw [z, pk_us]
      · rw [pk_un z]; exact h2 j (by omega))
    rw [nI_succ] at nx
    refine sx_go m112 100 rfl (fun VV CC hV hC => ?_)
    refine ⟨fun (c : nI 4 ≤ nI k) => absurd ((nI_leI (by omega) (by omega)).mp c) (by omega), fun _ => ?_⟩
    refine sx_s_al (cs := x112_195) rfl ?_
    refine sx_s_getr (cs := x112_198) rfl rfl hR ?_
    exact ⟨k, ⟨rfl, by omega⟩, hV _ _ _ _ _ _ _ nx⟩
set_option maxRecDepth 100000 in
theorem i_model (hR : R 78 = fun _ => none) (hk : ∀ J, (∀ q, (q < 79 ∨ 96 < q) → J q = I q) → J 79 = upd (upd (upd (upd (upd (fun _ => 0) 11 (nI 1)) 3 (nI 3)) 4 (nI 30)) 5 (nI 200)) 6 (nI 20) → (∀ q, 80 ≤ q → q ≤ 96 → q ≠ 82 → J q = fun _ => 0) → (∀ j, j < 4 → J 82 j = -1) → K none J (sx_upR R 78 (sx_mkR (fun _ _ => none) 78), .inl 100, ln)) :
    sx_C 112 (d + 1) [.ref 78] I (R, .inl 82, ln) K := by
  have key : ∀ R' J0, R' = sx_upR R 78 (sx_mkR (fun _ _ => none) 78) → ((∀ q, (q < 79 ∨ 96 < q) → J0 q = I q) ∧ J0 79 = upd (upd (upd (upd (upd (fun _ => 0) 11 (nI 1)) 3 (nI 3)) 4 (nI 30)) 5 (nI 200)) 6 (nI 20) ∧ (∀ q, 80 ≤ q → q ≤ 96 → J0 q = fun _ => 0)) → sx_V 112 (d + 1) 0 0 K 189 [(0, .ref 78), (1, .int (nI 0))] [] J0 (R', .inl 100, ln) := by
    intro R' J0 e ⟨a1, a2, a3⟩
    subst e
    refine v_model (I0 := J0) (by rw [sx_upR_same]; rfl) (fun J b1 b2 => hk J (fun q hq => (b1 q (by omega)).trans (a1 q hq)) ((b1 79 (by decide)).trans a2) (fun q x y z => (b1 q z).trans (a3 q x y)) b2) 4 0 J0 (by omega) (fun _ _ => rfl) (fun j hj => absurd hj (Nat.not_lt_zero j))
  have e0 := i_none hR
  refine sx_enter (by decide +kernel) (Nat.le_of_ble_eq_true rfl) (sx_go m112 200 rfl (fun VV CC hV hC => ?_))
  refine sx_s_al (n := 199) (cs := x112_1) rfl ?_
  refine sx_w_jsr (cs := x112_4) rfl ?_
  refine sx_s_al (cs := x112_5) rfl ?_
  refine sx_w_c (cs := x112_8) ?_
  refine sx_w_newa (cs := x112_10) (p0 := 82) rfl (Nat.le_of_ble_eq_true rfl) (Nat.le_of_ble_eq_true rfl) (by decide) (by decide) rfl ?_
  refine sx_w_putr (cs := x112_13) rfl rfl ?_
  refine sx_absR (P := fun R => sx_symG VV CC K _ _ _ _ _ _ _ _ (R, _, _)) (sx_upR R 78 (iput (fun _ => none) 0 79)) (i_step e0) (fun R1 e1 => ?_)
  refine sx_s_al (cs := x112_14) rfl ?_
  refine sx_w_c (cs := x112_17) ?_
  refine sx_w_newa (cs := x112_19) (p0 := 83) rfl (Nat.le_of_ble_eq_true rfl) (Nat.le_of_ble_eq_true rfl) (by decide) (by decide) rfl ?_
  refine sx_w_putr (cs := x112_22) rfl rfl ?_
  refine sx_absR (P := fun R => sx_symG VV CC K _ _ _ _ _ _ _ _ (R, _, _)) (sx_upR R 78 (iput (iput (fun _ => none) 0 79) 1 80)) (i_step e1) (fun R2 e2 => ?_)
  refine sx_s_al (cs := x112_23) rfl ?_
  refine sx_w_c (cs := x112_26) ?_
  refine sx_w_newa (cs := x112_28) (p0 := 84) rfl (Nat.le_of_ble_eq_true rfl) (Nat.le_of_ble_eq_true rfl) (by decide) (by decide) rfl ?_
  refine sx_w_putr (cs := x112_31) rfl rfl ?_
  refine sx_absR (P := fun R => sx_symG VV CC K _ _ _ _ _ _ _ _ (R, _, _)) (sx_upR R 78 (iput (iput (iput (fun _ => none) 0 79) 1 80) 2 81)) (i_step e2) (fun R3 e3 => ?_)
  refine sx_s_al (cs := x112_32) rfl ?_
  refine sx_w_c (cs := x112_33) ?_
  refine sx_w_newa (cs := x112_35) (p0 := 85) rfl (Nat.le_of_ble_eq_true rfl) (Nat.le_of_ble_eq_true rfl) (by decide) (by decide) rfl ?_
  refine sx_w_putr (cs := x112_38) rfl rfl ?_
  refine sx_absR (P := fun R => sx_symG VV CC K _ _ _ _ _ _ _ _ (R, _, _)) (sx_upR R 78 (iput (iput (iput (iput (fun _ => none) 0 79) 1 80) 2 81) 4 82)) (i_step e3) (fun R4 e4 => ?_)
  refine sx_s_al (cs := x112_39) rfl ?_
  refine sx_w_c (cs := x112_40) ?_
  refine sx_w_newa (cs := x112_42) (p0 := 86) rfl (Nat.le_of_ble_eq_true rfl) (Nat.le_of_ble_eq_true rfl) (by decide) (by decide) rfl ?_
  refine sx_w_putr (cs := x112_45) rfl rfl ?_
  refine sx_absR (P := fun R => sx_symG VV CC K _ _ _ _ _ _ _ _ (R, _, _)) (sx_upR R 78 (iput (iput (iput (iput (iput (fun _ => none) 0 79) 1 80) 2 81) 4 82) 5 83)) (i_step e4) (fun R5 e5 => ?_)
  refine sx_s_al (cs := x112_46) rfl ?_
  refine sx_w_c (cs := x112_48) ?_
  refine sx_w_newa (cs := x112_50) (p0 := 87) rfl (Nat.le_of_ble_eq_true rfl) (Nat.le_of_ble_eq_true rfl) (by decide) (by decide) rfl ?_
  refine sx_w_putr (cs := x112_53) rfl rfl ?_
  refine sx_absR (P := fun R => sx_symG VV CC K _ _ _ _ _ _ _ _ (R, _, _)) (sx_upR R 78 (iput (iput (iput (iput (iput (iput (fun _ => none) 0 79) 1 80) 2 81) 4 82) 5 83) 6 84)) (i_step e5) (fun R6 e6 => ?_)
  refine sx_s_al (cs := x112_54) rfl ?_
  refine sx_w_c (cs := x112_55) ?_
  refine sx_w_newa (cs := x112_57) (p0 := 88) rfl (Nat.le_of_ble_eq_true rfl) (Nat.le_of_ble_eq_true rfl) (by decide) (by decide) rfl ?_
  refine sx_w_putr (cs := x112_60) rfl rfl ?_
  refine sx_absR (P := fun R => sx_symG VV CC K _ _ _ _ _ _ _ _ (R, _, _)) (sx_upR R 78 (iput (iput (iput (iput (iput (iput (iput (fun _ => none) 0 79) 1 80) 2 81) 4 82) 5 83) 6 84) 7 85)) (i_step e6) (fun R7 e7 => ?_)
  refine sx_s_al (cs := x112_61) rfl ?_
  refine sx_w_c (cs := x112_62) ?_
  refine sx_w_newa (cs := x112_64) (p0 := 89) rfl (Nat.le_of_ble_eq_true rfl) (Nat.le_of_ble_eq_true rfl) (by decide) (by decide) rfl ?_
  refine sx_w_putr (cs := x112_67) rfl rfl ?_
  refine sx_absR (P := fun R => sx_symG VV CC K _ _ _ _ _ _ _ _ (R, _, _)) (sx_upR R 78 (iput (iput (iput (iput (iput (iput (iput (iput (fun _ => none) 0 79) 1 80) 2 81) 4 82) 5 83) 6 84) 7 85) 8 86)) (i_step e7) (fun R8 e8 => ?_)
  refine sx_s_al (cs := x112_68) rfl ?_
  refine sx_w_c (cs := x112_69) ?_
  refine sx_w_newa (cs := x112_71) (p0 := 90) rfl (Nat.le_of_ble_eq_true rfl) (Nat.le_of_ble_eq_true rfl) (by decide) (by decide) rfl ?_
  refine sx_w_putr (cs := x112_74) rfl rfl ?_
  refine sx_absR (P := fun R => sx_symG VV CC K _ _ _ _ _ _ _ _ (R, _, _)) (sx_upR R 78 (iput (iput (iput (iput (iput (iput (iput (iput (iput (fun _ => none) 0 79) 1 80) 2 81) 4 82) 5 83) 6 84) 7 85) 8 86) 9 87)) (i_step e8) (fun R9 e9 => ?_)
  refine sx_s_al (cs := x112_75) rfl ?_
  refine sx_w_c (cs := x112_76) ?_
  refine sx_w_newa (cs := x112_78) (p0 := 91) rfl (Nat.le_of_ble_eq_true rfl) (Nat.le_of_ble_eq_true rfl) (by decide) (by decide) rfl ?_
  refine sx_w_putr (cs := x112_81) rfl rfl ?_
  refine sx_absR (P := fun R => sx_symG VV CC K _ _ _ _ _ _ _ _ (R, _, _)) (sx_upR R 78 (iput (iput (iput (iput (iput (iput (iput (iput (iput (iput (fun _ => none) 0 79) 1 80) 2 81) 4 82) 5 83) 6 84) 7 85) 8 86) 9 87) 10 88)) (i_step e9) (fun R10 e10 => ?_)
  refine sx_s_al (cs := x112_82) rfl ?_
  refine sx_w_c (cs := x112_84) ?_
  refine sx_w_newa (cs := x112_86) (p0 := 92) rfl (Nat.le_of_ble_eq_true rfl) (Nat.le_of_ble_eq_true rfl) (by decide) (by decide) rfl ?_
  refine sx_w_putr (cs := x112_89) rfl rfl ?_
  refine sx_absR (P := fun R => sx_symG VV CC K _ _ _ _ _ _ _ _ (R, _, _)) (sx_upR R 78 (iput (iput (iput (iput (iput (iput (iput (iput (iput (iput (iput (fun _ => none) 0 79) 1 80) 2 81) 4 82) 5 83) 6 84) 7 85) 8 86) 9 87) 10 88) 11 89)) (i_step e10) (fun R11 e11 => ?_)
  refine sx_s_al (cs := x112_90) rfl ?_
  refine sx_w_c (cs := x112_92) ?_
  refine sx_w_newa (cs := x112_94) (p0 := 93) rfl (Nat.le_of_ble_eq_true rfl) (Nat.le_of_ble_eq_true rfl) (by decide) (by decide) rfl ?_
  refine sx_w_putr (cs := x112_97) rfl rfl ?_
  refine sx_absR (P := fun R => sx_symG VV CC K _ _ _ _ _ _ _ _ (R, _, _)) (sx_upR R 78 (iput (iput (iput (iput (iput (iput (iput (iput (iput (iput (iput (iput (fun _ => none) 0 79) 1 80) 2 81) 4 82) 5 83) 6 84) 7 85) 8 86) 9 87) 10 88) 11 89) 12 90)) (i_step e11) (fun R12 e12 => ?_)
  refine sx_s_al (cs := x112_98) rfl ?_
  refine sx_w_c (cs := x112_100) ?_
  refine sx_w_newa (cs := x112_102) (p0 := 94) rfl (Nat.le_of_ble_eq_true rfl) (Nat.le_of_ble_eq_true rfl) (by decide) (by decide) rfl ?_
  refine sx_w_putr (cs := x112_105) rfl rfl ?_
  refine sx_absR (P := fun R => sx_symG VV CC K _ _ _ _ _ _ _ _ (R, _, _)) (sx_upR R 78 (iput (iput (iput (iput (iput (iput (iput (iput (iput (iput (iput (iput (iput (fun _ => none) 0 79) 1 80) 2 81) 4 82) 5 83) 6 84) 7 85) 8 86) 9 87) 10 88) 11 89) 12 90) 13 91)) (i_step e12) (fun R13 e13 => ?_)
  refine sx_s_al (cs := x112_106) rfl ?_
  refine sx_w_c (cs := x112_109) ?_
  refine sx_w_newa (cs := x112_111) (p0 := 95) rfl (Nat.le_of_ble_eq_true rfl) (Nat.le_of_ble_eq_true rfl) (by decide) (by decide) rfl ?_
  refine sx_w_putr (cs := x112_114) rfl rfl ?_
  refine sx_absR (P := fun R => sx_symG VV CC K _ _ _ _ _ _ _ _ (R, _, _)) (sx_upR R 78 (iput (iput (iput (iput (iput (iput (iput (iput (iput (iput (iput (iput (iput (iput (fun _ => none) 0 79) 1 80) 2 81) 4 82) 5 83) 6 84) 7 85) 8 86) 9 87) 10 88) 11 89) 12 90) 13 91) 25 92)) (i_step e13) (fun R14 e14 => ?_)
  refine sx_s_al (cs := x112_115) rfl ?_
  refine sx_w_c (cs := x112_117) ?_
  refine sx_w_newa (cs := x112_119) (p0 := 96) rfl (Nat.le_of_ble_eq_true rfl) (Nat.le_of_ble_eq_true rfl) (by decide) (by decide) rfl ?_
  refine sx_w_putr (cs := x112_122) rfl rfl ?_
  refine sx_absR (P := fun R => sx_symG VV CC K _ _ _ _ _ _ _ _ (R, _, _)) (sx_upR R 78 (iput (iput (iput (iput (iput (iput (iput (iput (iput (iput (iput (iput (iput (iput (iput (fun _ => none) 0 79) 1 80) 2 81) 4 82) 5 83) 6 84) 7 85) 8 86) 9 87) 10 88) 11 89) 12 90) 13 91) 25 92) 26 93)) (i_step e14) (fun R15 e15 => ?_)
  refine sx_s_al (cs := x112_123) rfl ?_
  refine sx_w_c (cs := x112_125) ?_
  refine sx_w_newa (cs := x112_127) (p0 := 97) rfl (Nat.le_of_ble_eq_true rfl) (Nat.le_of_ble_eq_true rfl) (by decide) (by decide) rfl ?_
  refine sx_w_putr (cs := x112_130) rfl rfl ?_
  refine sx_absR (P := fun R => sx_symG VV CC K _ _ _ _ _ _ _ _ (R, _, _)) (sx_upR R 78 (iput (iput (iput (iput (iput (iput (iput (iput (iput (iput (iput (iput (iput (iput (iput (iput (fun _ => none) 0 79) 1 80) 2 81) 4 82) 5 83) 6 84) 7 85) 8 86) 9 87) 10 88) 11 89) 12 90) 13 91) 25 92) 26 93) 27 94)) (i_step e15) (fun R16 e16 => ?_)
  refine sx_s_al (cs := x112_131) rfl ?_
  refine sx_w_c (cs := x112_133) ?_
  refine sx_w_newa (cs := x112_135) (p0 := 98) rfl (Nat.le_of_ble_eq_true rfl) (Nat.le_of_ble_eq_true rfl) (by decide) (by decide) rfl ?_
  refine sx_w_putr (cs := x112_138) rfl rfl ?_
  refine sx_absR (P := fun R => sx_symG VV CC K _ _ _ _ _ _ _ _ (R, _, _)) (sx_upR R 78 (iput (iput (iput (iput (iput (iput (iput (iput (iput (iput (iput (iput (iput (iput (iput (iput (iput (fun _ => none) 0 79) 1 80) 2 81) 4 82) 5 83) 6 84) 7 85) 8 86) 9 87) 10 88) 11 89) 12 90) 13 91) 25 92) 26 93) 27 94) 28 95)) (i_step e16) (fun R17 e17 => ?_)
  refine sx_s_al (cs := x112_139) rfl ?_
  refine sx_w_c (cs := x112_141) ?_
  refine sx_w_newa (cs := x112_143) (p0 := 99) rfl (Nat.le_of_ble_eq_true rfl) (Nat.le_of_ble_eq_true rfl) (by decide) (by decide) rfl ?_
  refine sx_absJR (P := fun J R => sx_symG VV CC K _ _ _ _ _ _ _ J (R, _, _)) (fun J => (∀ q, (q < 79 ∨ 96 < q) → J q = I q) ∧ (∀ q, 79 ≤ q → q ≤ 96 → J q = fun _ => 0)) R17 ⟨fun q hq => ?_, fun q h1 h2 => ?_⟩ rfl (fun J1 R17' j1 e17' => ?_)
  · simp only [sx_up_ne (show q ≠ 79 by omega), sx_up_ne (show q ≠ 80 by omega), sx_up_ne (show q ≠ 81 by omega), sx_up_ne (show q ≠ 82 by omega), sx_up_ne (show q ≠ 83 by omega), sx_up_ne (show q ≠ 84 by omega), sx_up_ne (show q ≠ 85 by omega), sx_up_ne (show q ≠ 86 by omega), sx_up_ne (show q ≠ 87 by omega), sx_up_ne (show q ≠ 88 by omega), sx_up_ne (show q ≠ 89 by omega), sx_up_ne (show q ≠ 90 by omega), sx_up_ne (show q ≠ 91 by omega), sx_up_ne (show q ≠ 92 by omega), sx_up_ne (show q ≠ 93 by omega), sx_up_ne (show q ≠ 94 by omega), sx_up_ne (show q ≠ 95 by omega), sx_up_ne (show q ≠ 96 by omega)]
  · have : q = 79 ∨ q = 80 ∨ q = 81 ∨ q = 82 ∨ q = 83 ∨ q = 84 ∨ q = 85 ∨ q = 86 ∨ q = 87 ∨ q = 88 ∨ q = 89 ∨ q = 90 ∨ q = 91 ∨ q = 92 ∨ q = 93 ∨ q = 94 ∨ q = 95 ∨ q = 96 := by omega
    rcases this with z | z | z | z | z | z | z | z | z | z | z | z | z | z | z | z | z | z <;> subst z <;> rfl
  have row : (iput (iput (iput (iput (iput (iput (iput (iput (iput (iput (iput (iput (iput (iput (iput (iput (iput (iput (fun _ => none) 0 79) 1 80) 2 81) 4 82) 5 83) 6 84) 7 85) 8 86) 9 87) 10 88) 11 89) 12 90) 13 91) 25 92) 26 93) 27 94) 28 95) 30 96) = sx_mkR (fun _ _ => none) 78 := by
    funext k
    match k with
    | 0 => rfl
    | 1 => rfl
    | 2 => rfl
    | 3 => rfl
    | 4 => rfl
    | 5 => rfl
    | 6 => rfl
    | 7 => rfl
    | 8 => rfl
    | 9 => rfl
    | 10 => rfl
    | 11 => rfl
    | 12 => rfl
    | 13 => rfl
    | 14 => rfl
    | 15 => rfl
    | 16 => rfl
    | 17 => rfl
    | 18 => rfl
    | 19 => rfl
    | 20 => rfl
    | 21 => rfl
    | 22 => rfl
    | 23 => rfl
    | 24 => rfl
    | 25 => rfl
    | 26 => rfl
    | 27 => rfl
    | 28 => rfl
    | 29 => rfl
    | 30 => rfl
    | k + 31 => rfl
  refine sx_w_putr (cs := x112_146) rfl rfl ?_
  refine sx_absR (P := fun R => sx_symG VV CC K _ _ _ _ _ _ _ _ (R, _, _)) (sx_upR R 78 (iput (iput (iput (iput (iput (iput (iput (iput (iput (iput (iput (iput (iput (iput (iput (iput (iput (iput (fun _ => none) 0 79) 1 80) 2 81) 4 82) 5 83) 6 84) 7 85) 8 86) 9 87) 10 88) 11 89) 12 90) 13 91) 25 92) 26 93) 27 94) 28 95) 30 96)) (i_step (e17'.trans e17)) (fun R18 e18 => ?_)
  have h0 : R18 78 0 = some 79 := by rw [e18, sx_upR_same]; rfl
  refine sx_s_al (cs := x112_147) rfl ?_
  refine sx_s_getr (cs := x112_150) rfl rfl h0 ?_
  refine ⟨11, ⟨rfl, by omega⟩, ?_⟩
  refine sx_s_al (cs := x112_155) rfl ?_
  refine sx_s_getr (cs := x112_158) rfl rfl h0 ?_
  refine ⟨3, ⟨rfl, by omega⟩, ?_⟩
  refine sx_s_al (cs := x112_162) rfl ?_
  refine sx_s_getr (cs := x112_165) rfl rfl h0 ?_
  refine ⟨4, ⟨rfl, by omega⟩, ?_⟩
  refine sx_s_al (cs := x112_170) rfl ?_
  refine sx_s_getr (cs := x112_173) rfl rfl h0 ?_
  refine ⟨5, ⟨rfl, by omega⟩, ?_⟩
  refine sx_s_al (cs := x112_179) rfl ?_
  refine sx_s_getr (cs := x112_182) rfl rfl h0 ?_
  refine ⟨6, ⟨rfl, by omega⟩, hV _ _ _ _ _ _ _ (key _ _ (e18.trans (congrArg (sx_upR R 78) row)) ⟨fun q hq => ?_, ?_, fun q h1 h2 => ?_⟩)⟩
  · rw [sx_up_ne (by omega), sx_up_ne (by omega), sx_up_ne (by omega), sx_up_ne (by omega), sx_up_ne (by omega)]; exact j1.1 q hq
  · rw [sx_up_same, sx_up_same, sx_up_same, sx_up_same, sx_up_same, j1.2 79 (by omega) (by omega)]
  · rw [sx_up_ne (by omega), sx_up_ne (by omega), sx_up_ne (by omega), sx_up_ne (by omega), sx_up_ne (by omega)]; exact j1.2 q (by omega) h2
end
