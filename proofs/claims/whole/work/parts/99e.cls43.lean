/-! ===== the constructors: the whole class, the whole reference ===== -/
section
variable {VV : sx_VT} {CC : sx_CT} {K : sx_K} {cd cs : List sx_E} {n mc ms pc npc i ci k N t n0 na c1 c2 a : Nat} {x : List Nat} {cv : Value} {L : sx_L} {st r as : List Value} {I : sx_I} {R : Nat → Nat → Option Nat} {ln : Nat → Nat} {G : sx_G}
theorem sx_w_c (h : sx_symG VV CC K cd n mc ms cs L (cv :: r) I G) : sx_symG VV CC K cd (n + 1) mc ms ((.nop, pc, npc, x, cv) :: cs) L r I G := h
theorem sx_w_newa {a0 : ArrayType} {x1 : Int32} (hsh : sx_shS n0 = (1, t, N)) (h1 : 1 ≤ mc) (h2 : N ≤ ms) (h15 : 15 ≤ n0) (h96 : n0 ≤ 96) (hx : x1 = nI N) (h : sx_symG VV CC K cd n (mc - 1) (ms - N) cs L (.ref n0 :: r) (sx_up I n0 (fun _ => 0)) (R, .inl (n0 + 1), ln)) : sx_symG VV CC K cd (n + 1) mc ms ((.newarray a0, pc, npc, t :: N :: x, cv) :: cs) L (.int x1 :: r) I (R, .inl n0, ln) := by
  simp only [sx_symG, sx_stepG, hsh, sx_blet h1, sx_blet h2, sx_blet h15, sx_blet h96, Nat.beq_refl, Bool.and_true]
  exact ⟨hx, h⟩
theorem sx_w_anew {x1 : Int32} (hsh : sx_shS n0 = (1, t, N)) (h1 : 1 ≤ mc) (h2 : N ≤ ms) (h15 : 15 ≤ n0) (h96 : n0 ≤ 96) (hx : x1 = nI N) (h : sx_symG VV CC K cd n (mc - 1) (ms - N) cs L (.ref n0 :: r) I (sx_upR R n0 (fun _ => none), .inl (n0 + 1), ln)) : sx_symG VV CC K cd (n + 1) mc ms ((.anewarray i, pc, npc, t :: N :: x, cv) :: cs) L (.int x1 :: r) I (R, .inl n0, ln) := by
  simp only [sx_symG, sx_stepG, hsh, sx_blet h1, sx_blet h2, sx_blet h15, sx_blet h96, Nat.beq_refl, Bool.and_true]
  exact ⟨hx, h⟩
theorem sx_w_new (hsh : sx_shS n0 = (0, ci, N)) (h1 : 1 ≤ mc) (h2 : N ≤ ms) (h15 : 15 ≤ n0) (h96 : n0 ≤ 96) (h : sx_symG VV CC K cd n (mc - 1) (ms - N) cs L (.ref n0 :: st) (sx_up I n0 (fun _ => 0)) (sx_upR R n0 (fun _ => none), .inl (n0 + 1), ln)) : sx_symG VV CC K cd (n + 1) mc ms ((.new i, pc, npc, ci :: N :: x, cv) :: cs) L st I (R, .inl n0, ln) := by
  simp only [sx_symG, sx_stepG, hsh, sx_blet h1, sx_blet h2, sx_blet h15, sx_blet h96, Nat.beq_refl, Bool.and_true]
  exact h
theorem sx_w_spec (hp : sx_pop na st [] = some (.ref a :: as, r)) (h1 : c1 ≤ mc) (h2 : c2 ≤ ms) (hl : Nat.ble r.length 4 = true) (h : CC t (.ref a :: as) I G (fun v I2 G2 => sx_symG VV CC K cd n (mc - c1) (ms - c2) cs L (sx_psh v r) I2 G2)) : sx_symG VV CC K cd (n + 1) mc ms ((.invokespecial i, pc, npc, t :: na :: c1 :: c2 :: x, cv) :: cs) L st I G := by
  simp only [sx_symG, sx_stepG, hp, sx_blet h1, sx_blet h2, hl, Bool.and_true]
  exact h
theorem sx_w_putz {v : Int32} (hal : sx_al G a = true) (hsh : sx_sh G a = (0, ci, N)) (hv : v = 0 ∨ v = 1) (h : sx_symG VV CC K cd n mc ms cs L r (sx_up I a (upd (I a) k v)) G) : sx_symG VV CC K cd (n + 1) mc ms ((.putfield i, pc, npc, ci :: k :: 2 :: x, cv) :: cs) L (.int v :: .ref a :: r) I G := by
  simp only [sx_symG, sx_stepG, hal, hsh, Nat.beq_refl]
  exact ⟨hv, h⟩
end
theorem sx_absQ {P : (Nat → Nat → Option Nat) → Prop} {R : Nat → Nat → Option Nat} (Q : (Nat → Nat → Option Nat) → Prop) (hQ : Q R) (h : ∀ R, Q R → P R) : P R := h R hQ
def iM (cur : Nat) (g : Nat → Option Nat) (R : Nat → Nat → Option Nat) : Prop := (∀ q, 15 < q → q < cur → q ≠ 51 → q ≠ 52 → R q = sx_mkR (fun _ => none) q) ∧ (∀ q, cur ≤ q → R q = fun _ => none) ∧ R 15 = g ∧ R 51 = (fun _ => none) ∧ R 52 = fun _ => none
theorem iM.obj {n m : Nat} {g : Nat → Option Nat} {R : Nat → Nat → Option Nat} (h : iM n g R) (hn : 15 < n) (h51 : n < 51) (hm : n < m) (hmk : ∀ q, n < q → q < m → sx_mkR (fun _ => none) q = fun _ => none) : iM m g (sx_upR (sx_upR R n (fun _ => none)) n (sx_mkR (fun _ => none) n)) := by
  obtain ⟨a1, a2, a3, a4, a5⟩ := h
  refine ⟨fun q h1 h2 h3 h4 => ?_, fun q hq => ?_, ?_, ?_, ?_⟩
  · by_cases z : q = n
    · rw [z, sx_upR_same]
    · rw [sx_upR_ne z, sx_upR_ne z]
      by_cases y : q < n
      · exact a1 q h1 y h3 h4
      · rw [a2 q (by omega), hmk q (by omega) h2]
  · rw [sx_upR_ne (by omega), sx_upR_ne (by omega)]; exact a2 q (by omega)
  · rw [sx_upR_ne (by omega), sx_upR_ne (by omega)]; exact a3
  · rw [sx_upR_ne (by omega), sx_upR_ne (by omega)]; exact a4
  · rw [sx_upR_ne (by omega), sx_upR_ne (by omega)]; exact a5
theorem iM.put {n k b : Nat} {g : Nat → Option Nat} {R : Nat → Nat → Option Nat} (h : iM n g R) (hn : 15 < n) : iM n (iput g k b) (sx_upR R 15 (fun i => if i = k then some b else R 15 i)) := by
  obtain ⟨a1, a2, a3, a4, a5⟩ := h
  refine ⟨fun q h1 h2 h3 h4 => ?_, fun q hq => ?_, ?_, ?_, ?_⟩
  · rw [sx_upR_ne (by omega)]; exact a1 q h1 h2 h3 h4
  · rw [sx_upR_ne (by omega)]; exact a2 q hq
  · rw [sx_upR_same, a3]; rfl
  · rw [sx_upR_ne (by omega)]; exact a4
  · rw [sx_upR_ne (by omega)]; exact a5
theorem iM.arr {n : Nat} {g : Nat → Option Nat} {R : Nat → Nat → Option Nat} (h : iM n g R) (hmk : sx_mkR (fun _ => none) n = fun _ => none) : iM (n + 1) g R := by
  obtain ⟨a1, a2, a3, a4, a5⟩ := h
  refine ⟨fun q h1 h2 h3 h4 => ?_, fun q hq => a2 q (by omega), a3, a4, a5⟩
  by_cases y : q < n
  · exact a1 q h1 y h3 h4
  · have e : q = n := by omega
    rw [e, a2 n (Nat.le_refl n), hmk]
theorem iM.anw {n : Nat} {g : Nat → Option Nat} {R : Nat → Nat → Option Nat} (h : iM n g R) (hn : n = 51 ∨ n = 52) : iM (n + 1) g (sx_upR R n (fun _ => none)) := by
  obtain ⟨a1, a2, a3, a4, a5⟩ := h
  refine ⟨fun q h1 h2 h3 h4 => ?_, fun q hq => ?_, ?_, ?_, ?_⟩
  · rw [sx_upR_ne (by omega)]; exact a1 q h1 (by omega) h3 h4
  · rw [sx_upR_ne (by omega)]; exact a2 q (by omega)
  · rw [sx_upR_ne (by omega)]; exact a3
  · by_cases z : n = 51
    · rw [z, sx_upR_same]
    · rw [sx_upR_ne (by omega)]; exact a4
  · by_cases z : n = 52
    · rw [z, sx_upR_same]
    · rw [sx_upR_ne (by omega)]; exact a5
section
variable {d : Nat} {I : sx_I} {R : Nat → Nat → Option Nat} {ln : Nat → Nat} {K : sx_K}
set_option maxRecDepth 100000 in
theorem i_main (h0 : I 15 = fun _ => 0) (hk : ∀ J R', (∀ q, 15 ≤ q → q < 78 → R' q = sx_mkR (fun _ => none) q) → (∀ q, 78 ≤ q → R' q = fun _ => none) → iJ0 J → iS 4 J → iL 5 J → K none J (R', .inl 78, ln)) :
    sx_C 58 (d + 3) [.ref 15] I (sx_upR (fun _ _ => none) 15 (fun _ => none), .inl 16, ln) K := by
  refine sx_enter (by decide +kernel) (Nat.le_of_ble_eq_true rfl) (sx_go m58 100 rfl (fun VV CC hV hC => ?_))
  refine sx_s_al (n := 99) (cs := x58_1) rfl ?_
  refine sx_w_jsr (cs := x58_4) rfl ?_
  refine sx_absQ (P := fun R => sx_symG VV CC K _ _ _ _ _ _ _ _ (R, _, _)) (iM 16 (fun _ => none)) (⟨fun q h1 h2 => absurd h2 (by omega), fun q hq => sx_upR_ne (by omega), sx_upR_same, rfl, rfl⟩) (fun R r1 => ?_)
  refine sx_s_al (cs := x58_5) rfl ?_
  refine sx_w_new (cs := x58_8) (n0 := 16) rfl (Nat.le_of_ble_eq_true rfl) (Nat.le_of_ble_eq_true rfl) (by decide) (by decide) ?_
  refine sx_w_dup (cs := x58_9) ?_
  refine sx_w_spec (cs := x58_12) (a := 16) (as := []) (r := [.ref 16, .ref 15]) rfl (Nat.le_of_ble_eq_true rfl) (Nat.le_of_ble_eq_true rfl) rfl ?_
  refine hC _ _ _ _ _ (i_book (d := d + 1) sx_upR_same ((sx_upR_ne (by decide)).trans (r1.2.1 17 (by decide))) (fun J1 h1 => ?_))
  refine sx_absQ (P := fun R => sx_symG VV CC K _ _ _ _ _ _ _ _ (R, _, _)) (iM 19 (fun _ => none)) (r1.obj (by decide) (by decide) (by decide) (fun q h1 h2 => by
      have : q = 17 ∨ q = 18 := by omega
      rcases this with z | z <;> subst z <;> rfl)) (fun R r2 => ?_)
  refine sx_w_putr (cs := x58_15) rfl rfl ?_
  refine sx_absQ (P := fun R => sx_symG VV CC K _ _ _ _ _ _ _ _ (R, _, _)) (iM 19 (iput (fun _ => none) 0 16)) (r2.put (by decide)) (fun R r3 => ?_)
  refine sx_s_al (cs := x58_16) rfl ?_
  refine sx_w_new (cs := x58_19) (n0 := 19) rfl (Nat.le_of_ble_eq_true rfl) (Nat.le_of_ble_eq_true rfl) (by decide) (by decide) ?_
  refine sx_w_dup (cs := x58_20) ?_
  refine sx_s_al (cs := x58_21) rfl ?_
  have hg19 : ∀ g, sx_upR R 19 g 15 0 = some 16 := fun g => by
    rw [sx_upR_ne (show (15 : Nat) ≠ 19 by decide), r3.2.2.1]
    rfl
  refine sx_s_getr (cs := x58_24) rfl rfl (b := 16) (hg19 (fun _ => none)) ?_
  refine sx_w_spec (cs := x58_27) (a := 19) (as := [.ref 16]) (r := [.ref 19, .ref 15]) rfl (Nat.le_of_ble_eq_true rfl) (Nat.le_of_ble_eq_true rfl) rfl ?_
  refine hC _ _ _ _ _ (i_border_19 (d := d + 1) sx_upR_same (sx_up_same _ _ _) (fun J2 f2 a1 a2 a3 a4 a5 => ?_))
  refine sx_absQ (P := fun R => sx_symG VV CC K _ _ _ _ _ _ _ _ (R, _, _)) (iM 28 (iput (fun _ => none) 0 16)) (r3.obj (by decide) (by decide) (by decide) (fun q h1 h2 => by
      have : q = 20 ∨ q = 21 ∨ q = 22 ∨ q = 23 ∨ q = 24 ∨ q = 25 ∨ q = 26 ∨ q = 27 := by omega
      rcases this with z | z | z | z | z | z | z | z <;> subst z <;> rfl)) (fun R r4 => ?_)
  refine sx_w_putr (cs := x58_30) rfl rfl ?_
  refine sx_absQ (P := fun R => sx_symG VV CC K _ _ _ _ _ _ _ _ (R, _, _)) (iM 28 (iput (iput (fun _ => none) 0 16) 1 19)) (r4.put (by decide)) (fun R r5 => ?_)
  refine sx_s_al (cs := x58_31) rfl ?_
  refine sx_w_new (cs := x58_34) (n0 := 28) rfl (Nat.le_of_ble_eq_true rfl) (Nat.le_of_ble_eq_true rfl) (by decide) (by decide) ?_
  refine sx_w_dup (cs := x58_35) ?_
  refine sx_s_al (cs := x58_36) rfl ?_
  have hg28 : ∀ g, sx_upR R 28 g 15 0 = some 16 := fun g => by
    rw [sx_upR_ne (show (15 : Nat) ≠ 28 by decide), r5.2.2.1]
    rfl
  refine sx_s_getr (cs := x58_39) rfl rfl (b := 16) (hg28 (fun _ => none)) ?_
  refine sx_w_spec (cs := x58_42) (a := 28) (as := [.ref 16]) (r := [.ref 28, .ref 15]) rfl (Nat.le_of_ble_eq_true rfl) (Nat.le_of_ble_eq_true rfl) rfl ?_
  refine hC _ _ _ _ _ (i_border_28 (d := d + 1) sx_upR_same (sx_up_same _ _ _) (fun J3 f3 _ _ _ _ _ => ?_))
  refine sx_absQ (P := fun R => sx_symG VV CC K _ _ _ _ _ _ _ _ (R, _, _)) (iM 37 (iput (iput (fun _ => none) 0 16) 1 19)) (r5.obj (by decide) (by decide) (by decide) (fun q h1 h2 => by
      have : q = 29 ∨ q = 30 ∨ q = 31 ∨ q = 32 ∨ q = 33 ∨ q = 34 ∨ q = 35 ∨ q = 36 := by omega
      rcases this with z | z | z | z | z | z | z | z <;> subst z <;> rfl)) (fun R r6 => ?_)
  refine sx_w_putr (cs := x58_45) rfl rfl ?_
  refine sx_absQ (P := fun R => sx_symG VV CC K _ _ _ _ _ _ _ _ (R, _, _)) (iM 37 (iput (iput (iput (fun _ => none) 0 16) 1 19) 2 28)) (r6.put (by decide)) (fun R r7 => ?_)
  refine sx_s_al (cs := x58_46) rfl ?_
  refine sx_w_new (cs := x58_49) (n0 := 37) rfl (Nat.le_of_ble_eq_true rfl) (Nat.le_of_ble_eq_true rfl) (by decide) (by decide) ?_
  refine sx_w_dup (cs := x58_50) ?_
  refine sx_s_al (cs := x58_51) rfl ?_
  have hg37 : ∀ g, sx_upR R 37 g 15 0 = some 16 := fun g => by
    rw [sx_upR_ne (show (15 : Nat) ≠ 37 by decide), r7.2.2.1]
    rfl
  refine sx_s_getr (cs := x58_54) rfl rfl (b := 16) (hg37 (fun _ => none)) ?_
  refine sx_w_spec (cs := x58_57) (a := 37) (as := [.ref 16]) (r := [.ref 37, .ref 15]) rfl (Nat.le_of_ble_eq_true rfl) (Nat.le_of_ble_eq_true rfl) rfl ?_
  refine hC _ _ _ _ _ (i_border_37 (d := d + 1) sx_upR_same (sx_up_same _ _ _) (fun J4 f4 _ _ _ _ _ => ?_))
  refine sx_absQ (P := fun R => sx_symG VV CC K _ _ _ _ _ _ _ _ (R, _, _)) (iM 46 (iput (iput (iput (fun _ => none) 0 16) 1 19) 2 28)) (r7.obj (by decide) (by decide) (by decide) (fun q h1 h2 => by
      have : q = 38 ∨ q = 39 ∨ q = 40 ∨ q = 41 ∨ q = 42 ∨ q = 43 ∨ q = 44 ∨ q = 45 := by omega
      rcases this with z | z | z | z | z | z | z | z <;> subst z <;> rfl)) (fun R r8 => ?_)
  refine sx_w_putr (cs := x58_60) rfl rfl ?_
  refine sx_absQ (P := fun R => sx_symG VV CC K _ _ _ _ _ _ _ _ (R, _, _)) (iM 46 (iput (iput (iput (iput (fun _ => none) 0 16) 1 19) 2 28) 3 37)) (r8.put (by decide)) (fun R r9 => ?_)
  refine sx_s_al (cs := x58_61) rfl ?_
  refine sx_w_c (cs := x58_62) ?_
  refine sx_w_putz (cs := x58_65) rfl rfl (Or.inl rfl) ?_
  refine sx_s_al (cs := x58_66) rfl ?_
  refine sx_w_new (cs := x58_69) (n0 := 46) rfl (Nat.le_of_ble_eq_true rfl) (Nat.le_of_ble_eq_true rfl) (by decide) (by decide) ?_
  refine sx_w_dup (cs := x58_70) ?_
  refine sx_w_spec (cs := x58_73) (a := 46) (as := []) (r := [.ref 46, .ref 15]) rfl (Nat.le_of_ble_eq_true rfl) (Nat.le_of_ble_eq_true rfl) rfl ?_
  refine hC _ _ _ _ _ (i_reader (d := d + 1) sx_upR_same (fun J5 f5 => ?_))
  refine sx_absQ (P := fun R => sx_symG VV CC K _ _ _ _ _ _ _ _ (R, _, _)) (iM 50 (iput (iput (iput (iput (fun _ => none) 0 16) 1 19) 2 28) 3 37)) (r9.obj (by decide) (by decide) (by decide) (fun q h1 h2 => by
      have : q = 47 ∨ q = 48 ∨ q = 49 := by omega
      rcases this with z | z | z <;> subst z <;> rfl)) (fun R r10 => ?_)
  refine sx_w_putr (cs := x58_76) rfl rfl ?_
  refine sx_absQ (P := fun R => sx_symG VV CC K _ _ _ _ _ _ _ _ (R, _, _)) (iM 50 (iput (iput (iput (iput (iput (fun _ => none) 0 16) 1 19) 2 28) 3 37) 5 46)) (r10.put (by decide)) (fun R r11 => ?_)
  have g : ∀ q, 18 < q → q < 28 → J5 q = J2 q := fun q x y => by
    rw [f5 q (by omega), sx_up_ne (by omega), sx_up_ne (by omega), f4 q (by omega), sx_up_ne (by omega), f3 q (by omega), sx_up_ne (by omega)]
  have g15 : J5 15 = upd (fun _ => 0) 4 (nI 0) := by
    rw [f5 15 (by omega), sx_up_ne (by decide), sx_up_same, f4 15 (by omega), sx_up_ne (by decide), f3 15 (by omega), sx_up_ne (by decide), f2 15 (by omega), sx_up_ne (by decide), h1 15 (by decide), sx_up_ne (by decide), h0]
  have fin : ∀ J6 J7 J8 J9 J : sx_I, J6 = sx_up J5 50 (fun _ => 0) → J7 = sx_up J6 15 (upd (J6 15) 7 (nI 0)) → J8 = sx_up J7 53 (fun _ => 0) → J9 = sx_up J8 15 (upd (J8 15) 11 (nI 0)) → J = sx_up J9 54 (fun _ => 0) → iJ0 J := by
    intro J6 J7 J8 J9 J e6 e7 e8 e9 e
    have e15 : J 15 = upd (upd (upd (fun _ => 0) 4 (nI 0)) 7 (nI 0)) 11 (nI 0) := by
      rw [e, sx_up_ne (by decide), e9, sx_up_same, e8, sx_up_ne (by decide), e7, sx_up_same, e6, sx_up_ne (by decide), g15]
    have eq : ∀ q, 18 < q → q < 28 → J q = J2 q := fun q x y => by
      rw [e, sx_up_ne (by omega), e9, sx_up_ne (by omega), e8, sx_up_ne (by omega), e7, sx_up_ne (by omega), e6, sx_up_ne (by omega)]; exact g q x y
    refine ⟨?_, ?_, fun w hw => ?_, ?_, fun w hw => ?_, fun w hw => ?_⟩
    · rw [e15]; exact ⟨rfl, rfl, rfl⟩
    · rw [eq 19 (by omega) (by omega)]; exact a1
    · rw [eq _ (by omega) (by omega)]; exact a2 w hw
    · rw [eq 25 (by omega) (by omega)]; exact a3
    · rw [eq 26 (by omega) (by omega)]; exact a4 w hw
    · rw [eq 27 (by omega) (by omega)]; exact a5 w hw
  refine sx_s_al (cs := x58_77) rfl ?_
  refine sx_w_c (cs := x58_79) ?_
  refine sx_w_newa (cs := x58_81) (n0 := 50) rfl (Nat.le_of_ble_eq_true rfl) (Nat.le_of_ble_eq_true rfl) (by decide) (by decide) rfl ?_
  refine sx_absQ (P := fun R => sx_symG VV CC K _ _ _ _ _ _ _ _ (R, _, _)) (iM 51 (iput (iput (iput (iput (iput (fun _ => none) 0 16) 1 19) 2 28) 3 37) 5 46)) (r11.arr rfl) (fun R r12 => ?_)
  refine sx_w_putr (cs := x58_84) rfl rfl ?_
  refine sx_absQ (P := fun R => sx_symG VV CC K _ _ _ _ _ _ _ _ (R, _, _)) (iM 51 (iput (iput (iput (iput (iput (iput (fun _ => none) 0 16) 1 19) 2 28) 3 37) 5 46) 6 50)) (r12.put (by decide)) (fun R r13 => ?_)
  refine sx_s_al (cs := x58_85) rfl ?_
  refine sx_w_c (cs := x58_86) ?_
  refine sx_w_puti (cs := x58_89) rfl rfl ?_
  refine sx_s_al (cs := x58_90) rfl ?_
  refine sx_w_c (cs := x58_91) ?_
  refine sx_w_anew (cs := x58_94) (n0 := 51) rfl (Nat.le_of_ble_eq_true rfl) (Nat.le_of_ble_eq_true rfl) (by decide) (by decide) rfl ?_
  refine sx_absQ (P := fun R => sx_symG VV CC K _ _ _ _ _ _ _ _ (R, _, _)) (iM 52 (iput (iput (iput (iput (iput (iput (fun _ => none) 0 16) 1 19) 2 28) 3 37) 5 46) 6 50)) (r13.anw (Or.inl rfl)) (fun R r14 => ?_)
  refine sx_w_putr (cs := x58_97) rfl rfl ?_
  refine sx_absQ (P := fun R => sx_symG VV CC K _ _ _ _ _ _ _ _ (R, _, _)) (iM 52 (iput (iput (iput (iput (iput (iput (iput (fun _ => none) 0 16) 1 19) 2 28) 3 37) 5 46) 6 50) 8 51)) (r14.put (by decide)) (fun R r15 => ?_)
  refine sx_s_al (cs := x58_98) rfl ?_
  refine sx_w_c (cs := x58_99) ?_
  refine sx_w_anew (cs := x58_102) (n0 := 52) rfl (Nat.le_of_ble_eq_true rfl) (Nat.le_of_ble_eq_true rfl) (by decide) (by decide) rfl ?_
  refine sx_absQ (P := fun R => sx_symG VV CC K _ _ _ _ _ _ _ _ (R, _, _)) (iM 53 (iput (iput (iput (iput (iput (iput (iput (fun _ => none) 0 16) 1 19) 2 28) 3 37) 5 46) 6 50) 8 51)) (r15.anw (Or.inr rfl)) (fun R r16 => ?_)
  refine sx_w_putr (cs := x58_105) rfl rfl ?_
  refine sx_absQ (P := fun R => sx_symG VV CC K _ _ _ _ _ _ _ _ (R, _, _)) (iM 53 (iput (iput (iput (iput (iput (iput (iput (iput (fun _ => none) 0 16) 1 19) 2 28) 3 37) 5 46) 6 50) 8 51) 9 52)) (r16.put (by decide)) (fun R r17 => ?_)
  refine sx_s_al (cs := x58_106) rfl ?_
  refine sx_w_c (cs := x58_108) ?_
  refine sx_w_newa (cs := x58_110) (n0 := 53) rfl (Nat.le_of_ble_eq_true rfl) (Nat.le_of_ble_eq_true rfl) (by decide) (by decide) rfl ?_
  refine sx_absQ (P := fun R => sx_symG VV CC K _ _ _ _ _ _ _ _ (R, _, _)) (iM 54 (iput (iput (iput (iput (iput (iput (iput (iput (fun _ => none) 0 16) 1 19) 2 28) 3 37) 5 46) 6 50) 8 51) 9 52)) (r17.arr rfl) (fun R r18 => ?_)
  refine sx_w_putr (cs := x58_113) rfl rfl ?_
  refine sx_absQ (P := fun R => sx_symG VV CC K _ _ _ _ _ _ _ _ (R, _, _)) (iM 54 (iput (iput (iput (iput (iput (iput (iput (iput (iput (fun _ => none) 0 16) 1 19) 2 28) 3 37) 5 46) 6 50) 8 51) 9 52) 10 53)) (r18.put (by decide)) (fun R r19 => ?_)
  refine sx_s_al (cs := x58_114) rfl ?_
  refine sx_w_c (cs := x58_115) ?_
  refine sx_w_puti (cs := x58_118) rfl rfl ?_
  refine sx_s_al (cs := x58_119) rfl ?_
  refine sx_w_c (cs := x58_121) ?_
  refine sx_w_newa (cs := x58_123) (n0 := 54) rfl (Nat.le_of_ble_eq_true rfl) (Nat.le_of_ble_eq_true rfl) (by decide) (by decide) rfl ?_
  refine sx_absQ (P := fun R => sx_symG VV CC K _ _ _ _ _ _ _ _ (R, _, _)) (iM 55 (iput (iput (iput (iput (iput (iput (iput (iput (iput (fun _ => none) 0 16) 1 19) 2 28) 3 37) 5 46) 6 50) 8 51) 9 52) 10 53)) (r19.arr rfl) (fun R r20 => ?_)
  refine sx_w_putr (cs := x58_126) rfl rfl ?_
  refine sx_absQ (P := fun R => sx_symG VV CC K _ _ _ _ _ _ _ _ (R, _, _)) (iM 55 (iput (iput (iput (iput (iput (iput (iput (iput (iput (iput (fun _ => none) 0 16) 1 19) 2 28) 3 37) 5 46) 6 50) 8 51) 9 52) 10 53) 12 54)) (r20.put (by decide)) (fun R r21 => ?_)
  have row : (iput (iput (iput (iput (iput (iput (iput (iput (iput (iput (fun _ => none) 0 16) 1 19) 2 28) 3 37) 5 46) 6 50) 8 51) 9 52) 10 53) 12 54) = sx_mkR (fun _ => none) 15 := by
    funext k
    match k with
    | 0 => rfl
    | 1 => rfl
    | 2 => rfl
    | 3 => rfl
    | 4 => rfl
    | 5 => rfl
    | 6 => rfl
    | 7 => rfl
    | 8 => rfl
    | 9 => rfl
    | 10 => rfl
    | 11 => rfl
    | 12 => rfl
    | k + 13 => rfl
  refine hV _ _ _ _ _ _ _ (v_sh_55 (d := d) ⟨fun q h1 h2 h3 h4 => ?_, fun q hq => r21.2.1 q hq, fun j => ?_, r21.2.2.2.2⟩ (fin _ _ _ _ _ rfl rfl rfl rfl rfl) (fun j hj => absurd hj (Nat.not_lt_zero j)) hk)
  · by_cases z : q = 15
    · rw [z, r21.2.2.1, row]
    · exact r21.1 q (by omega) h2 h3 h4
  · rw [if_neg (Nat.not_lt_zero j), r21.2.2.2.1]
set_option maxRecDepth 100000 in
theorem v_model {I0 : sx_I} (hR : R 78 4 = some 82) (hk : ∀ J, (∀ q, q ≠ 82 → J q = I0 q) → (∀ j, j < 4 → J 82 j = -1) → K none J (R, .inl 97, ln)) :
    ∀ (r k : Nat) (J : sx_I), k + r = 4 → (∀ q, q ≠ 82 → J q = I0 q) → (∀ j, j < k → J 82 j = -1) → sx_V 112 (d + 1) 0 0 K 189 [(0, .ref 78), (1, .int (nI k))] [] J (R, .inl 97, ln)
  | 0, k, J, h, h1, h2 => by
    have e : k = 4 := by omega
    subst e
    refine sx_go m112 100 rfl (fun VV CC hV hC => ?_)
    exact ⟨fun _ => hk J h1 h2, fun (c : ¬ nI 4 ≤ nI 4) => absurd (Int32.le_refl _) c⟩
  | r + 1, k, J, h, h1, h2 => by
    have nx := v_model hR hk r (k + 1) (sx_up J 82 (upd (J 82) k (-1))) (by omega) (fun q hq => (sx_up_ne hq).trans (h1 q hq)) (fun j hj => by
      rw [sx_up_same]
      by_cases z : j = k
      · rw [z, pk_us]
      · rw [pk_un z]; exact h2 j (by omega))
    rw [nI_succ] at nx
    refine sx_go m112 100 rfl (fun VV CC hV hC => ?_)
    refine ⟨fun (c : nI 4 ≤ nI k) => absurd ((nI_leI (by omega) (by omega)).mp c) (by omega), fun _ => ?_⟩
    refine sx_s_al (cs := x112_195) rfl ?_
    refine sx_s_getr (cs := x112_198) rfl rfl hR ?_
    exact ⟨k, ⟨rfl, by omega⟩, hV _ _ _ _ _ _ _ nx⟩
set_option maxRecDepth 100000 in
theorem i_model (hR : R 78 = fun _ => none) (hk : ∀ J, (∀ q, q < 79 → J q = I q) → J 79 = upd (upd (upd (upd (upd (fun _ => 0) 11 (nI 1)) 3 (nI 3)) 4 (nI 30)) 5 (nI 200)) 6 (nI 20) → (∀ q, 80 ≤ q → q ≤ 96 → q ≠ 82 → J q = fun _ => 0) → (∀ j, j < 4 → J 82 j = -1) → K none J (sx_upR R 78 (sx_mkR (fun _ => none) 78), .inl 97, ln)) :
    sx_C 112 (d + 1) [.ref 78] I (R, .inl 79, ln) K := by
  have key : ∀ R' J0, R' = sx_upR R 78 (sx_mkR (fun _ => none) 78) → ((∀ q, q < 79 → J0 q = I q) ∧ J0 79 = upd (upd (upd (upd (upd (fun _ => 0) 11 (nI 1)) 3 (nI 3)) 4 (nI 30)) 5 (nI 200)) 6 (nI 20) ∧ (∀ q, 80 ≤ q → q ≤ 96 → J0 q = fun _ => 0)) → sx_V 112 (d + 1) 0 0 K 189 [(0, .ref 78), (1, .int (nI 0))] [] J0 (R', .inl 97, ln) := by
    intro R' J0 e ⟨a1, a2, a3⟩
    subst e
    refine v_model (I0 := J0) (by rw [sx_upR_same]; rfl) (fun J b1 b2 => hk J (fun q hq => (b1 q (by omega)).trans (a1 q hq)) ((b1 79 (by decide)).trans a2) (fun q x y z => (b1 q z).trans (a3 q x y)) b2) 4 0 J0 (by omega) (fun _ _ => rfl) (fun j hj => absurd hj (Nat.not_lt_zero j))
  have e0 := i_none hR
  refine sx_enter (by decide +kernel) (Nat.le_of_ble_eq_true rfl) (sx_go m112 200 rfl (fun VV CC hV hC => ?_))
  refine sx_s_al (n := 199) (cs := x112_1) rfl ?_
  refine sx_w_jsr (cs := x112_4) rfl ?_
  refine sx_s_al (cs := x112_5) rfl ?_
  refine sx_w_c (cs := x112_8) ?_
  refine sx_w_newa (cs := x112_10) (n0 := 79) rfl (Nat.le_of_ble_eq_true rfl) (Nat.le_of_ble_eq_true rfl) (by decide) (by decide) rfl ?_
  refine sx_w_putr (cs := x112_13) rfl rfl ?_
  refine sx_absR (P := fun R => sx_symG VV CC K _ _ _ _ _ _ _ _ (R, _, _)) (sx_upR R 78 (iput (fun _ => none) 0 79)) (i_step e0) (fun R1 e1 => ?_)
  refine sx_s_al (cs := x112_14) rfl ?_
  refine sx_w_c (cs := x112_17) ?_
  refine sx_w_newa (cs := x112_19) (n0 := 80) rfl (Nat.le_of_ble_eq_true rfl) (Nat.le_of_ble_eq_true rfl) (by decide) (by decide) rfl ?_
  refine sx_w_putr (cs := x112_22) rfl rfl ?_
  refine sx_absR (P := fun R => sx_symG VV CC K _ _ _ _ _ _ _ _ (R, _, _)) (sx_upR R 78 (iput (iput (fun _ => none) 0 79) 1 80)) (i_step e1) (fun R2 e2 => ?_)
  refine sx_s_al (cs := x112_23) rfl ?_
  refine sx_w_c (cs := x112_26) ?_
  refine sx_w_newa (cs := x112_28) (n0 := 81) rfl (Nat.le_of_ble_eq_true rfl) (Nat.le_of_ble_eq_true rfl) (by decide) (by decide) rfl ?_
  refine sx_w_putr (cs := x112_31) rfl rfl ?_
  refine sx_absR (P := fun R => sx_symG VV CC K _ _ _ _ _ _ _ _ (R, _, _)) (sx_upR R 78 (iput (iput (iput (fun _ => none) 0 79) 1 80) 2 81)) (i_step e2) (fun R3 e3 => ?_)
  refine sx_s_al (cs := x112_32) rfl ?_
  refine sx_w_c (cs := x112_33) ?_
  refine sx_w_newa (cs := x112_35) (n0 := 82) rfl (Nat.le_of_ble_eq_true rfl) (Nat.le_of_ble_eq_true rfl) (by decide) (by decide) rfl ?_
  refine sx_w_putr (cs := x112_38) rfl rfl ?_
  refine sx_absR (P := fun R => sx_symG VV CC K _ _ _ _ _ _ _ _ (R, _, _)) (sx_upR R 78 (iput (iput (iput (iput (fun _ => none) 0 79) 1 80) 2 81) 4 82)) (i_step e3) (fun R4 e4 => ?_)
  refine sx_s_al (cs := x112_39) rfl ?_
  refine sx_w_c (cs := x112_40) ?_
  refine sx_w_newa (cs := x112_42) (n0 := 83) rfl (Nat.le_of_ble_eq_true rfl) (Nat.le_of_ble_eq_true rfl) (by decide) (by decide) rfl ?_
  refine sx_w_putr (cs := x112_45) rfl rfl ?_
  refine sx_absR (P := fun R => sx_symG VV CC K _ _ _ _ _ _ _ _ (R, _, _)) (sx_upR R 78 (iput (iput (iput (iput (iput (fun _ => none) 0 79) 1 80) 2 81) 4 82) 5 83)) (i_step e4) (fun R5 e5 => ?_)
  refine sx_s_al (cs := x112_46) rfl ?_
  refine sx_w_c (cs := x112_48) ?_
  refine sx_w_newa (cs := x112_50) (n0 := 84) rfl (Nat.le_of_ble_eq_true rfl) (Nat.le_of_ble_eq_true rfl) (by decide) (by decide) rfl ?_
  refine sx_w_putr (cs := x112_53) rfl rfl ?_
  refine sx_absR (P := fun R => sx_symG VV CC K _ _ _ _ _ _ _ _ (R, _, _)) (sx_upR R 78 (iput (iput (iput (iput (iput (iput (fun _ => none) 0 79) 1 80) 2 81) 4 82) 5 83) 6 84)) (i_step e5) (fun R6 e6 => ?_)
  refine sx_s_al (cs := x112_54) rfl ?_
  refine sx_w_c (cs := x112_55) ?_
  refine sx_w_newa (cs := x112_57) (n0 := 85) rfl (Nat.le_of_ble_eq_true rfl) (Nat.le_of_ble_eq_true rfl) (by decide) (by decide) rfl ?_
  refine sx_w_putr (cs := x112_60) rfl rfl ?_
  refine sx_absR (P := fun R => sx_symG VV CC K _ _ _ _ _ _ _ _ (R, _, _)) (sx_upR R 78 (iput (iput (iput (iput (iput (iput (iput (fun _ => none) 0 79) 1 80) 2 81) 4 82) 5 83) 6 84) 7 85)) (i_step e6) (fun R7 e7 => ?_)
  refine sx_s_al (cs := x112_61) rfl ?_
  refine sx_w_c (cs := x112_62) ?_
  refine sx_w_newa (cs := x112_64) (n0 := 86) rfl (Nat.le_of_ble_eq_true rfl) (Nat.le_of_ble_eq_true rfl) (by decide) (by decide) rfl ?_
  refine sx_w_putr (cs := x112_67) rfl rfl ?_
  refine sx_absR (P := fun R => sx_symG VV CC K _ _ _ _ _ _ _ _ (R, _, _)) (sx_upR R 78 (iput (iput (iput (iput (iput (iput (iput (iput (fun _ => none) 0 79) 1 80) 2 81) 4 82) 5 83) 6 84) 7 85) 8 86)) (i_step e7) (fun R8 e8 => ?_)
  refine sx_s_al (cs := x112_68) rfl ?_
  refine sx_w_c (cs := x112_69) ?_
  refine sx_w_newa (cs := x112_71) (n0 := 87) rfl (Nat.le_of_ble_eq_true rfl) (Nat.le_of_ble_eq_true rfl) (by decide) (by decide) rfl ?_
  refine sx_w_putr (cs := x112_74) rfl rfl ?_
  refine sx_absR (P := fun R => sx_symG VV CC K _ _ _ _ _ _ _ _ (R, _, _)) (sx_upR R 78 (iput (iput (iput (iput (iput (iput (iput (iput (iput (fun _ => none) 0 79) 1 80) 2 81) 4 82) 5 83) 6 84) 7 85) 8 86) 9 87)) (i_step e8) (fun R9 e9 => ?_)
  refine sx_s_al (cs := x112_75) rfl ?_
  refine sx_w_c (cs := x112_76) ?_
  refine sx_w_newa (cs := x112_78) (n0 := 88) rfl (Nat.le_of_ble_eq_true rfl) (Nat.le_of_ble_eq_true rfl) (by decide) (by decide) rfl ?_
  refine sx_w_putr (cs := x112_81) rfl rfl ?_
  refine sx_absR (P := fun R => sx_symG VV CC K _ _ _ _ _ _ _ _ (R, _, _)) (sx_upR R 78 (iput (iput (iput (iput (iput (iput (iput (iput (iput (iput (fun _ => none) 0 79) 1 80) 2 81) 4 82) 5 83) 6 84) 7 85) 8 86) 9 87) 10 88)) (i_step e9) (fun R10 e10 => ?_)
  refine sx_s_al (cs := x112_82) rfl ?_
  refine sx_w_c (cs := x112_84) ?_
  refine sx_w_newa (cs := x112_86) (n0 := 89) rfl (Nat.le_of_ble_eq_true rfl) (Nat.le_of_ble_eq_true rfl) (by decide) (by decide) rfl ?_
  refine sx_w_putr (cs := x112_89) rfl rfl ?_
  refine sx_absR (P := fun R => sx_symG VV CC K _ _ _ _ _ _ _ _ (R, _, _)) (sx_upR R 78 (iput (iput (iput (iput (iput (iput (iput (iput (iput (iput (iput (fun _ => none) 0 79) 1 80) 2 81) 4 82) 5 83) 6 84) 7 85) 8 86) 9 87) 10 88) 11 89)) (i_step e10) (fun R11 e11 => ?_)
  refine sx_s_al (cs := x112_90) rfl ?_
  refine sx_w_c (cs := x112_92) ?_
  refine sx_w_newa (cs := x112_94) (n0 := 90) rfl (Nat.le_of_ble_eq_true rfl) (Nat.le_of_ble_eq_true rfl) (by decide) (by decide) rfl ?_
  refine sx_w_putr (cs := x112_97) rfl rfl ?_
  refine sx_absR (P := fun R => sx_symG VV CC K _ _ _ _ _ _ _ _ (R, _, _)) (sx_upR R 78 (iput (iput (iput (iput (iput (iput (iput (iput (iput (iput (iput (iput (fun _ => none) 0 79) 1 80) 2 81) 4 82) 5 83) 6 84) 7 85) 8 86) 9 87) 10 88) 11 89) 12 90)) (i_step e11) (fun R12 e12 => ?_)
  refine sx_s_al (cs := x112_98) rfl ?_
  refine sx_w_c (cs := x112_100) ?_
  refine sx_w_newa (cs := x112_102) (n0 := 91) rfl (Nat.le_of_ble_eq_true rfl) (Nat.le_of_ble_eq_true rfl) (by decide) (by decide) rfl ?_
  refine sx_w_putr (cs := x112_105) rfl rfl ?_
  refine sx_absR (P := fun R => sx_symG VV CC K _ _ _ _ _ _ _ _ (R, _, _)) (sx_upR R 78 (iput (iput (iput (iput (iput (iput (iput (iput (iput (iput (iput (iput (iput (fun _ => none) 0 79) 1 80) 2 81) 4 82) 5 83) 6 84) 7 85) 8 86) 9 87) 10 88) 11 89) 12 90) 13 91)) (i_step e12) (fun R13 e13 => ?_)
  refine sx_s_al (cs := x112_106) rfl ?_
  refine sx_w_c (cs := x112_109) ?_
  refine sx_w_newa (cs := x112_111) (n0 := 92) rfl (Nat.le_of_ble_eq_true rfl) (Nat.le_of_ble_eq_true rfl) (by decide) (by decide) rfl ?_
  refine sx_w_putr (cs := x112_114) rfl rfl ?_
  refine sx_absR (P := fun R => sx_symG VV CC K _ _ _ _ _ _ _ _ (R, _, _)) (sx_upR R 78 (iput (iput (iput (iput (iput (iput (iput (iput (iput (iput (iput (iput (iput (iput (fun _ => none) 0 79) 1 80) 2 81) 4 82) 5 83) 6 84) 7 85) 8 86) 9 87) 10 88) 11 89) 12 90) 13 91) 25 92)) (i_step e13) (fun R14 e14 => ?_)
  refine sx_s_al (cs := x112_115) rfl ?_
  refine sx_w_c (cs := x112_117) ?_
  refine sx_w_newa (cs := x112_119) (n0 := 93) rfl (Nat.le_of_ble_eq_true rfl) (Nat.le_of_ble_eq_true rfl) (by decide) (by decide) rfl ?_
  refine sx_w_putr (cs := x112_122) rfl rfl ?_
  refine sx_absR (P := fun R => sx_symG VV CC K _ _ _ _ _ _ _ _ (R, _, _)) (sx_upR R 78 (iput (iput (iput (iput (iput (iput (iput (iput (iput (iput (iput (iput (iput (iput (iput (fun _ => none) 0 79) 1 80) 2 81) 4 82) 5 83) 6 84) 7 85) 8 86) 9 87) 10 88) 11 89) 12 90) 13 91) 25 92) 26 93)) (i_step e14) (fun R15 e15 => ?_)
  refine sx_s_al (cs := x112_123) rfl ?_
  refine sx_w_c (cs := x112_125) ?_
  refine sx_w_newa (cs := x112_127) (n0 := 94) rfl (Nat.le_of_ble_eq_true rfl) (Nat.le_of_ble_eq_true rfl) (by decide) (by decide) rfl ?_
  refine sx_w_putr (cs := x112_130) rfl rfl ?_
  refine sx_absR (P := fun R => sx_symG VV CC K _ _ _ _ _ _ _ _ (R, _, _)) (sx_upR R 78 (iput (iput (iput (iput (iput (iput (iput (iput (iput (iput (iput (iput (iput (iput (iput (iput (fun _ => none) 0 79) 1 80) 2 81) 4 82) 5 83) 6 84) 7 85) 8 86) 9 87) 10 88) 11 89) 12 90) 13 91) 25 92) 26 93) 27 94)) (i_step e15) (fun R16 e16 => ?_)
  refine sx_s_al (cs := x112_131) rfl ?_
  refine sx_w_c (cs := x112_133) ?_
  refine sx_w_newa (cs := x112_135) (n0 := 95) rfl (Nat.le_of_ble_eq_true rfl) (Nat.le_of_ble_eq_true rfl) (by decide) (by decide) rfl ?_
  refine sx_w_putr (cs := x112_138) rfl rfl ?_
  refine sx_absR (P := fun R => sx_symG VV CC K _ _ _ _ _ _ _ _ (R, _, _)) (sx_upR R 78 (iput (iput (iput (iput (iput (iput (iput (iput (iput (iput (iput (iput (iput (iput (iput (iput (iput (fun _ => none) 0 79) 1 80) 2 81) 4 82) 5 83) 6 84) 7 85) 8 86) 9 87) 10 88) 11 89) 12 90) 13 91) 25 92) 26 93) 27 94) 28 95)) (i_step e16) (fun R17 e17 => ?_)
  refine sx_s_al (cs := x112_139) rfl ?_
  refine sx_w_c (cs := x112_141) ?_
  refine sx_w_newa (cs := x112_143) (n0 := 96) rfl (Nat.le_of_ble_eq_true rfl) (Nat.le_of_ble_eq_true rfl) (by decide) (by decide) rfl ?_
  refine sx_absJR (P := fun J R => sx_symG VV CC K _ _ _ _ _ _ _ J (R, _, _)) (fun J => (∀ q, q < 79 → J q = I q) ∧ (∀ q, 79 ≤ q → q ≤ 96 → J q = fun _ => 0)) R17 ⟨fun q hq => ?_, fun q h1 h2 => ?_⟩ rfl (fun J1 R17' j1 e17' => ?_)
  · simp only [sx_up_ne (show q ≠ 79 by omega), sx_up_ne (show q ≠ 80 by omega), sx_up_ne (show q ≠ 81 by omega), sx_up_ne (show q ≠ 82 by omega), sx_up_ne (show q ≠ 83 by omega), sx_up_ne (show q ≠ 84 by omega), sx_up_ne (show q ≠ 85 by omega), sx_up_ne (show q ≠ 86 by omega), sx_up_ne (show q ≠ 87 by omega), sx_up_ne (show q ≠ 88 by omega), sx_up_ne (show q ≠ 89 by omega), sx_up_ne (show q ≠ 90 by omega), sx_up_ne (show q ≠ 91 by omega), sx_up_ne (show q ≠ 92 by omega), sx_up_ne (show q ≠ 93 by omega), sx_up_ne (show q ≠ 94 by omega), sx_up_ne (show q ≠ 95 by omega), sx_up_ne (show q ≠ 96 by omega)]
  · have : q = 79 ∨ q = 80 ∨ q = 81 ∨ q = 82 ∨ q = 83 ∨ q = 84 ∨ q = 85 ∨ q = 86 ∨ q = 87 ∨ q = 88 ∨ q = 89 ∨ q = 90 ∨ q = 91 ∨ q = 92 ∨ q = 93 ∨ q = 94 ∨ q = 95 ∨ q = 96 := by omega
    rcases this with z | z | z | z | z | z | z | z | z | z | z | z | z | z | z | z | z | z <;> subst z <;> rfl
  have row : (iput (iput (iput (iput (iput (iput (iput (iput (iput (iput (iput (iput (iput (iput (iput (iput (iput (iput (fun _ => none) 0 79) 1 80) 2 81) 4 82) 5 83) 6 84) 7 85) 8 86) 9 87) 10 88) 11 89) 12 90) 13 91) 25 92) 26 93) 27 94) 28 95) 30 96) = sx_mkR (fun _ => none) 78 := by
    funext k
    match k with
    | 0 => rfl
    | 1 => rfl
    | 2 => rfl
    | 3 => rfl
    | 4 => rfl
    | 5 => rfl
    | 6 => rfl
    | 7 => rfl
    | 8 => rfl
    | 9 => rfl
    | 10 => rfl
    | 11 => rfl
    | 12 => rfl
    | 13 => rfl
    | 14 => rfl
    | 15 => rfl
    | 16 => rfl
    | 17 => rfl
    | 18 => rfl
    | 19 => rfl
    | 20 => rfl
    | 21 => rfl
    | 22 => rfl
    | 23 => rfl
    | 24 => rfl
    | 25 => rfl
    | 26 => rfl
    | 27 => rfl
    | 28 => rfl
    | 29 => rfl
    | 30 => rfl
    | k + 31 => rfl
  refine sx_w_putr (cs := x112_146) rfl rfl ?_
  refine sx_absR (P := fun R => sx_symG VV CC K _ _ _ _ _ _ _ _ (R, _, _)) (sx_upR R 78 (iput (iput (iput (iput (iput (iput (iput (iput (iput (iput (iput (iput (iput (iput (iput (iput (iput (iput (fun _ => none) 0 79) 1 80) 2 81) 4 82) 5 83) 6 84) 7 85) 8 86) 9 87) 10 88) 11 89) 12 90) 13 91) 25 92) 26 93) 27 94) 28 95) 30 96)) (i_step (e17'.trans e17)) (fun R18 e18 => ?_)
  have h0 : R18 78 0 = some 79 := by rw [e18, sx_upR_same]; rfl
  refine sx_s_al (cs := x112_147) rfl ?_
  refine sx_s_getr (cs := x112_150) rfl rfl h0 ?_
  refine ⟨11, ⟨rfl, by omega⟩, ?_⟩
  refine sx_s_al (cs := x112_155) rfl ?_
  refine sx_s_getr (cs := x112_158) rfl rfl h0 ?_
  refine ⟨3, ⟨rfl, by omega⟩, ?_⟩
  refine sx_s_al (cs := x112_162) rfl ?_
  refine sx_s_getr (cs := x112_165) rfl rfl h0 ?_
  refine ⟨4, ⟨rfl, by omega⟩, ?_⟩
  refine sx_s_al (cs := x112_170) rfl ?_
  refine sx_s_getr (cs := x112_173) rfl rfl h0 ?_
  refine ⟨5, ⟨rfl, by omega⟩, ?_⟩
  refine sx_s_al (cs := x112_179) rfl ?_
  refine sx_s_getr (cs := x112_182) rfl rfl h0 ?_
  refine ⟨6, ⟨rfl, by omega⟩, hV _ _ _ _ _ _ _ (key _ _ (e18.trans (congrArg (sx_upR R 78) row)) ⟨fun q hq => ?_, ?_, fun q h1 h2 => ?_⟩)⟩
  · rw [sx_up_ne (by omega), sx_up_ne (by omega), sx_up_ne (by omega), sx_up_ne (by omega), sx_up_ne (by omega)]; exact j1.1 q hq
  · rw [sx_up_same, sx_up_same, sx_up_same, sx_up_same, sx_up_same, j1.2 79 (by omega) (by omega)]
  · rw [sx_up_ne (by omega), sx_up_ne (by omega), sx_up_ne (by omega), sx_up_ne (by omega), sx_up_ne (by omega)]; exact j1.2 q (by omega) h2
end
