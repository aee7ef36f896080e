/-! ===== the class: texts; what a text gives ===== -/
theorem gs_divm1 (x : Int32) : x / -1 = -x := by
  apply Int32.toInt_inj.mp
  have e : (-1 : Int32).toInt = -1 := by decide +kernel
  rw [Int32.toInt_div, e, Int.tdiv_neg, Int.tdiv_one, Int32.toInt_neg]
/-- a name's code; the signs -/
def gb_nm (n : Nat) : Int32 := if n = 119 ∨ n = 104 then -1 else if n = 112 then -3 else -2
def gb_sg (n : Nat) : Prop := n = 38 ∨ n = 42 ∨ n = 43 ∨ n = 45 ∨ n = 47 ∨ n = 60 ∨ n = 61 ∨ n = 62 ∨ n = 124
/-- a piece of a text's code and the reference's step -/
def gb_tk (key c w v : Int32) : Prop := (w = 0 ∧ c = v ∧ 0 ≤ v) ∨ (w = nI 1 ∧ ∃ n, v = nI n ∧ gs_nmok key n ∧ c = gb_nm n) ∨ (w = nI 2 ∧ ∃ n, v = nI n ∧ c = -nI n ∧ (n = 33 ∨ gb_sg n))
/-- text t of a row s stands in a book; the book's rows: rw -/
def gb_tx1 (I : sx_I) (rw : Nat → Option Nat) (m : Nat) (ln : Nat → Nat) (s : Nat → Int32) (t : Nat) : Prop :=
  ∃ u M, rw t = some (200 + 3 * u) ∧ 3 * u + 3 ≤ m ∧ I (200 + 3 * u) 0 = s (62 + 200 * t) ∧ I (200 + 3 * u) 1 = s (63 + 200 * t) ∧ (ln (201 + 3 * u) = M ∧ ln (202 + 3 * u) = M) ∧ gs_tok s t M ∧ ∀ i, i < M → gb_tk (s (62 + 200 * t)) (I (201 + 3 * u) i) (s (66 + 200 * t + 2 * i)) (s (67 + 200 * t + 2 * i))
/-- what a book's rows hold are texts -/
def gb_ro (rw : Nat → Option Nat) (m : Nat) : Prop := ∀ i b, i < 14 → rw i = some b → ∃ v, b = 200 + 3 * v ∧ 3 * v + 3 ≤ m
def gb_tx (I : sx_I) (rw : Nat → Option Nat) (m : Nat) (ln : Nat → Nat) (s : Nat → Int32) : Prop := ∃ T, s 1 = nI T ∧ T ≤ 14 ∧ (∀ t, t < T → gb_tx1 I rw m ln s t) ∧ gb_ro rw m
theorem gb_tx.ro {I : sx_I} {rw : Nat → Option Nat} {m : Nat} {ln : Nat → Nat} {s : Nat → Int32} (h : gb_tx I rw m ln s) : gb_ro rw m := by
  obtain ⟨T, -, -, -, h⟩ := h
  exact h
theorem gb_tx.tx {I : sx_I} {rw : Nat → Option Nat} {m : Nat} {ln : Nat → Nat} {s : Nat → Int32} (h : gb_tx I rw m ln s) : gs_tx s := by
  obtain ⟨T, h1, h2, h3, -⟩ := h
  refine ⟨T, h1, h2, fun t ht => ?_⟩
  obtain ⟨u, M, -, -, -, -, -, h4, -⟩ := h3 t ht
  exact ⟨M, h4⟩
theorem gb_tx1.cg {I I' : sx_I} {rw : Nat → Option Nat} {m : Nat} {ln : Nat → Nat} {s s' : Nat → Int32} {t : Nat} (h : gb_tx1 I rw m ln s t) (hI : ∀ a, 200 ≤ a → (a - 200) % 3 ≠ 2 → I' a = I a) (hs : ∀ i, 62 ≤ i → i < 2862 → s' i = s i) : gb_tx1 I' rw m ln s' t := by
  obtain ⟨u, M, h1, h2, h3, h4, h5, h6, h7⟩ := h
  have ht : t < 14 := h6.1
  have hM : M ≤ 96 := h6.2.2.1
  have hag : ∀ k, k ≤ 96 → gs_ht s' t k = gs_ht s t k := by
    intro k
    induction k with
    | zero => intro _; rfl
    | succ k ih =>
      intro hk
      unfold gs_ht
      rw [ih (by omega), hs _ (by omega) (by omega), hs _ (by omega) (by omega)]
  refine ⟨u, M, h1, h2, by rw [hI _ (by omega) (by omega), hs _ (by omega) (by omega)]; exact h3, by rw [hI _ (by omega) (by omega), hs _ (by omega) (by omega)]; exact h4, h5, ⟨ht, by rw [hs _ (by omega) (by omega)]; exact h6.2.1, hM, by rw [hag _ hM]; exact h6.2.2.2.1, fun k hk => ?_⟩, fun i hi => ?_⟩
  · rw [hs _ (by omega) (by omega), hs _ (by omega) (by omega), hag _ (by omega), hs _ (by omega) (by omega)]
    exact h6.2.2.2.2 k hk
  · rw [hI _ (by omega) (by omega), hs _ (by omega) (by omega), hs _ (by omega) (by omega), hs _ (by omega) (by omega)]
    exact h7 i hi
theorem gb_tx.cg {I I' : sx_I} {rw : Nat → Option Nat} {m : Nat} {ln : Nat → Nat} {s s' : Nat → Int32} (h : gb_tx I rw m ln s) (hI : ∀ a, 200 ≤ a → (a - 200) % 3 ≠ 2 → I' a = I a) (h1 : s' 1 = s 1) (hs : ∀ i, 62 ≤ i → i < 2862 → s' i = s i) : gb_tx I' rw m ln s' := by
  obtain ⟨T, q1, q2, q3, q4⟩ := h
  exact ⟨T, h1.trans q1, q2, fun t ht => (q3 t ht).cg hI hs, q4⟩
/-- another book with the same texts -/
theorem gb_tx.row {I : sx_I} {rw rw' : Nat → Option Nat} {m : Nat} {ln : Nat → Nat} {s : Nat → Int32} (h : gb_tx I rw m ln s) (e : ∀ t, t < 14 → rw' t = rw t) : gb_tx I rw' m ln s := by
  obtain ⟨T, q1, q2, q3, q4⟩ := h
  refine ⟨T, q1, q2, fun t ht => ?_, fun i b hi hb => q4 i b hi ((e i hi).symm.trans hb)⟩
  obtain ⟨u, M, h1, h2⟩ := q3 t ht
  exact ⟨u, M, (e t (by omega)).trans h1, h2⟩
/-- memory is as it was but for the texts' stacks -/
def gb_k (I I' : sx_I) : Prop := ∀ a, ¬ (200 ≤ a ∧ (a - 200) % 3 = 2) → I' a = I a
theorem gb_k.rf (I : sx_I) : gb_k I I := fun _ _ => rfl
theorem gb_k.tr {I I' I2 : sx_I} (h : gb_k I I') (h2 : gb_k I' I2) : gb_k I I2 := fun a h3 => (h2 a h3).trans (h a h3)
theorem gb_k.up (I : sx_I) (u : Nat) (f : Nat → Int32) : gb_k I (sx_up I (202 + 3 * u) f) := fun _ h => sx_up_ne (by omega)
theorem gb_k.hi {I I' : sx_I} (h : gb_k I I') : ∀ a, 200 ≤ a → (a - 200) % 3 ≠ 2 → I' a = I a := fun a _ h2 => h a (by omega)
/-! ids of texts -/
theorem sx_blef {a b : Nat} (h : b < a) : Nat.ble a b = false := by
  cases e : Nat.ble a b with
  | false => rfl
  | true => exact absurd (Nat.le_of_ble_eq_true e) (by omega)
theorem sx_blet {a b : Nat} (h : a ≤ b) : Nat.ble a b = true := Nat.ble_eq_true_of_le h
theorem sx_al_t {R : Nat → Nat → Option Nat} {m : Nat} {ln : Nat → Nat} {a : Nat} (h : 200 ≤ a ∧ a < 200 + m) : sx_al (R, .inr m, ln) a = true := by
  show (bif sx_gd a then (bif Nat.ble a 199 then true else Nat.ble (a + 1) (200 + m)) else false) = true
  rw [sx_gd_hi h.1, sx_blef (show 199 < a by omega)]
  exact sx_blet (by omega)
theorem sx_sh_t {G : sx_G} (u : Nat) : sx_sh G (200 + 3 * u) = (0, 5, 4) := by
  unfold sx_sh
  rw [sx_blef (show 14 < 200 + 3 * u by omega), sx_blef (show 199 < 200 + 3 * u by omega), show (200 + 3 * u - 200) % 3 = 0 by omega]
  rfl
theorem sx_sh_c {G : sx_G} (u : Nat) : sx_sh G (201 + 3 * u) = (1, 0, G.2.2 (201 + 3 * u)) := by
  unfold sx_sh
  rw [sx_blef (show 14 < 201 + 3 * u by omega), sx_blef (show 199 < 201 + 3 * u by omega), show (201 + 3 * u - 200) % 3 = 1 by omega]
  rfl
theorem sx_sh_k {G : sx_G} (u : Nat) : sx_sh G (202 + 3 * u) = (1, 0, G.2.2 (202 + 3 * u)) := by
  unfold sx_sh
  rw [sx_blef (show 14 < 202 + 3 * u by omega), sx_blef (show 199 < 202 + 3 * u by omega), show (202 + 3 * u - 200) % 3 = 2 by omega]
  rfl
theorem sx_mk_t {rw : Nat → Nat → Option Nat} (u : Nat) : sx_mkR rw (200 + 3 * u) 2 = some (201 + 3 * u) := by
  unfold sx_mkR
  rw [sx_blef (show 199 < 200 + 3 * u by omega)]
  show some (200 + 3 * u + 1) = _
  congr 1; omega
theorem sx_mk_k {rw : Nat → Nat → Option Nat} (u : Nat) : sx_mkR rw (200 + 3 * u) 3 = some (202 + 3 * u) := by
  unfold sx_mkR
  rw [sx_blef (show 199 < 200 + 3 * u by omega)]
  show some (200 + 3 * u + 2) = _
  congr 1; omega
section
variable {VV : sx_VT} {CC : sx_CT} {K : sx_K} {cd cs : List sx_E} {n mc ms pc npc i ci k N t : Nat} {x : List Nat} {cv : Value} {L : sx_L} {r : List Value} {I : sx_I} {G : sx_G} {a b : Nat}
theorem sx_s_il {y : Int32} (h0 : sx_lk L i = some (.int y)) (h : sx_symG VV CC K cd n mc ms cs L (.int y :: r) I G) : sx_symG VV CC K cd (n + 1) mc ms ((.iload i, pc, npc, x, cv) :: cs) L r I G := by
  simp only [sx_symG, sx_stepG, h0]
  exact h
theorem sx_s_al {y : Nat} (h0 : sx_lk L i = some (.ref y)) (h : sx_symG VV CC K cd n mc ms cs L (.ref y :: r) I G) : sx_symG VV CC K cd (n + 1) mc ms ((.aload i, pc, npc, x, cv) :: cs) L r I G := by
  simp only [sx_symG, sx_stepG, h0]
  exact h
theorem sx_s_getr (hal : sx_al G a = true) (hsh : sx_sh G a = (0, ci, N)) (hR : G.1 a k = some b) (h : sx_symG VV CC K cd n mc ms cs L (.ref b :: r) I G) : sx_symG VV CC K cd (n + 1) mc ms ((.getfield i, pc, npc, ci :: k :: 1 :: x, cv) :: cs) L (.ref a :: r) I G := by
  simp only [sx_symG, sx_stepG, hal, hsh, hR, Nat.beq_refl]
  exact h
theorem sx_s_geti (hal : sx_al G a = true) (hsh : sx_sh G a = (0, ci, N)) (h : sx_symG VV CC K cd n mc ms cs L (.int (I a k) :: r) I G) : sx_symG VV CC K cd (n + 1) mc ms ((.getfield i, pc, npc, ci :: k :: 0 :: x, cv) :: cs) L (.ref a :: r) I G := by
  simp only [sx_symG, sx_stepG, hal, hsh, Nat.beq_refl]
  exact h
theorem sx_s_len (hal : sx_al G a = true) (hsh : sx_sh G a = (1, t, N)) (h : sx_symG VV CC K cd n mc ms cs L (.int (nI N) :: r) I G) : sx_symG VV CC K cd (n + 1) mc ms ((.arraylength, pc, npc, x, cv) :: cs) L (.ref a :: r) I G := by
  simp only [sx_symG, sx_stepG, hal, hsh]
  exact h
theorem sx_s_ild {z : Int32} {q : Nat} (hal : sx_al G a = true) (hsh : sx_sh G a = (1, 0, N)) (ha : 13 < a) (hz : z = nI q) (hq : q < N) (h : sx_symG VV CC K cd n mc ms cs L (.int (I a q) :: r) I G) : sx_symG VV CC K cd (n + 1) mc ms ((.iaload, pc, npc, x, cv) :: cs) L (.int z :: .ref a :: r) I G := by
  simp only [sx_symG, sx_stepG, hal, hsh, sx_blef ha]
  exact ⟨q, ⟨hz, hq⟩, h⟩
theorem sx_s_ist {v z : Int32} {q : Nat} (hal : sx_al G a = true) (hsh : sx_sh G a = (1, 0, N)) (ha : 14 < a) (hz : z = nI q) (hq : q < N) (h : sx_symG VV CC K cd n mc ms cs L r (sx_up I a (upd (I a) q v)) G) : sx_symG VV CC K cd (n + 1) mc ms ((.iastore, pc, npc, x, cv) :: cs) L (.int v :: .int z :: .ref a :: r) I G := by
  simp only [sx_symG, sx_stepG, hal, hsh, sx_blef ha]
  exact ⟨q, ⟨hz, hq⟩, h⟩
theorem sx_s_k (h : sx_symG VV CC K cd n mc ms cs L (cv :: r) I G) : sx_symG VV CC K cd (n + 1) mc ms ((.nop, pc, npc, x, cv) :: cs) L r I G := h
theorem sx_s_sub {y z : Int32} (h : sx_symG VV CC K cd n mc ms cs L (.int (z - y) :: r) I G) : sx_symG VV CC K cd (n + 1) mc ms ((.isub, pc, npc, x, cv) :: cs) L (.int y :: .int z :: r) I G := h
theorem sx_s_neg {y : Int32} (h : sx_symG VV CC K cd n mc ms cs L (.int (-y) :: r) I G) : sx_symG VV CC K cd (n + 1) mc ms ((.ineg, pc, npc, x, cv) :: cs) L (.int y :: r) I G := h
theorem sx_w_aast {z : Int32} {q v M : Nat} (hal : sx_al G a = true) (hsh : sx_sh G a = (1, 3, N)) (halv : sx_al G v = true) (hshv : sx_sh G v = (0, 5, M)) (hz : z = nI q) (hq : q < N) (h : sx_symG VV CC K cd n mc ms cs L r I (sx_upR G.1 a (fun i => if i = q then some v else G.1 a i), G.2)) : sx_symG VV CC K cd (n + 1) mc ms ((.aastore, pc, npc, x, cv) :: cs) L (.ref v :: .int z :: .ref a :: r) I G := by
  simp only [sx_symG, sx_stepG, hal, hsh, halv, hshv]
  exact ⟨q, ⟨hz, hq⟩, h⟩
theorem sx_w_aastN {z : Int32} {q : Nat} (hal : sx_al G a = true) (hsh : sx_sh G a = (1, 3, N)) (hz : z = nI q) (hq : q < N) (h : sx_symG VV CC K cd n mc ms cs L r I (sx_upR G.1 a (fun i => if i = q then none else G.1 a i), G.2)) : sx_symG VV CC K cd (n + 1) mc ms ((.aastore, pc, npc, x, cv) :: cs) L (.null :: .int z :: .ref a :: r) I G := by
  simp only [sx_symG, sx_stepG, hal, hsh]
  exact ⟨q, ⟨hz, hq⟩, h⟩
theorem sx_s_inc {nn : Int} {y z : Int32} {L2 : sx_L} (h0 : sx_lk L i = some (.int z)) (hl : sx_nl L i = true) (hL : sx_pt L i (.int (z + y)) = L2) (h : sx_symG VV CC K cd n mc ms cs L2 r I G) : sx_symG VV CC K cd (n + 1) mc ms ((.iinc i nn, pc, npc, x, .int y) :: cs) L r I G := by
  subst hL
  simp only [sx_symG, sx_stepG, h0, hl]
  exact h
theorem sx_s_virt {c1 c2 : Nat} {as st : List Value} (hp : sx_pop k st [] = some (.ref a :: as, r)) (hm : (Nat.ble c1 mc && Nat.ble c2 ms) = true) (hl : Nat.ble r.length 4 = true) (hal : sx_al G a = true) (hsh : sx_sh G a = (0, ci, N)) (h : CC t (.ref a :: as) I G (fun v I2 G2 => sx_symG VV CC K cd n (mc - c1) (ms - c2) cs L (sx_psh v r) I2 G2)) : sx_symG VV CC K cd (n + 1) mc ms ((.invokevirtual i, pc, npc, t :: k :: c1 :: c2 :: ci :: x, cv) :: cs) L st I G := by
  simp only [sx_symG, sx_stepG, hp, hm, hl, hal, hsh, Nat.beq_refl]
  exact h
end
section
variable {d m : Nat} {I : sx_I} {rw : Nat → Nat → Option Nat} {ln : Nat → Nat} {K : sx_K}
theorem gb_lit {c : Nat} {z : Int32} (hc : c < 2 ^ 31) (b : Nat) (hb : b < 2 ^ 31) (h : nI c = nI b) : c = b := (nI_eq hc hb).mp h
theorem c_workedOut {n : Nat} {c x y : Int32} {G : sx_G} (hc : c = nI n) (hn : gb_sg n) (hk : K (some (.int (gs_join c x y))) I G) : sx_C 4 (d + 1) [.int c, .int x, .int y] I G K := by
  have e : ∀ b, b < 128 → (nI n = nI b ↔ n = b) := fun b hb => nI_eq (by rcases hn with h | h | h | h | h | h | h | h | h <;> omega) (by omega)
  have ne : ∀ b, b < 128 → n ≠ b → ¬ nI n = nI b := fun b hb h q => h ((e b hb).mp q)
  subst hc
  unfold gs_join at hk
  refine sx_enter (by decide +kernel) (Nat.le_of_ble_eq_true rfl) (sx_go m4 60 rfl (fun VV CC hV hC => ?_))
  refine ⟨fun (c1 : nI n = nI 38) => ?_, fun (c1 : ¬ nI n = nI 38) => ⟨fun (c2 : nI n = nI 42) => ?_, fun (c2 : ¬ nI n = nI 42) => ⟨fun (c3 : nI n = nI 43) => ?_, fun (c3 : ¬ nI n = nI 43) => ⟨fun (c4 : nI n = nI 45) => ?_, fun (c4 : ¬ nI n = nI 45) => ⟨fun (c5 : nI n = nI 47) => ?_, fun (c5 : ¬ nI n = nI 47) => ⟨fun (c6 : nI n = nI 60) => ?_, fun (c6 : ¬ nI n = nI 60) => ⟨fun (c7 : nI n = nI 61) => ?_, fun (c7 : ¬ nI n = nI 61) => ⟨fun (c8 : nI n = nI 62) => ?_, fun (c8 : ¬ nI n = nI 62) => ⟨fun (c9 : nI n = nI 124) => ?_, fun (c9 : ¬ nI n = nI 124) => ?_⟩⟩⟩⟩⟩⟩⟩⟩⟩
  · have q := (e 38 (by omega)).mp c1
    rw [if_neg (ne 43 (by omega) (by omega)), if_neg (ne 45 (by omega) (by omega)), if_neg (ne 42 (by omega) (by omega)), if_neg (ne 47 (by omega) (by omega)), if_neg (ne 60 (by omega) (by omega)), if_neg (ne 62 (by omega) (by omega)), if_neg (ne 61 (by omega) (by omega)), if_pos c1] at hk
    refine ⟨fun (a1 : x = 0) => ?_, fun (a1 : ¬ x = 0) => ⟨fun (a2 : y = 0) => ?_, fun (a2 : ¬ y = 0) => ?_⟩⟩
    · rw [if_neg (fun h => h.1 a1)] at hk; exact hk
    · rw [if_neg (fun h => h.2 a2)] at hk; exact hk
    · rw [if_pos ⟨a1, a2⟩] at hk; exact hk
  · have q := (e 42 (by omega)).mp c2
    rw [if_neg (ne 43 (by omega) (by omega)), if_neg (ne 45 (by omega) (by omega)), if_pos c2] at hk
    exact hk
  · rw [if_pos c3] at hk; exact hk
  · have q := (e 45 (by omega)).mp c4
    rw [if_neg c3, if_pos c4] at hk; exact hk
  · have q := (e 47 (by omega)).mp c5
    rw [if_neg c3, if_neg c4, if_neg c2, if_pos c5] at hk
    refine ⟨fun (a1 : ¬ y = 0) => ⟨a1, ?_⟩, fun (a1 : y = 0) => ?_⟩
    · rw [if_neg a1] at hk
      by_cases a2 : y = -1
      · rw [if_pos a2] at hk
        rw [a2, gs_divm1]; exact hk
      · rw [if_neg a2] at hk; exact hk
    · rw [if_pos a1] at hk; exact hk
  · rw [if_neg c3, if_neg c4, if_neg c2, if_neg c5, if_pos c6] at hk
    refine ⟨fun (a1 : y ≤ x) => ?_, fun (a1 : ¬ y ≤ x) => ?_⟩
    · rw [if_neg (Int32.not_lt.mpr a1)] at hk; exact hk
    · rw [if_pos (Int32.not_le.mp a1)] at hk; exact hk
  · have q := (e 61 (by omega)).mp c7
    rw [if_neg c3, if_neg c4, if_neg c2, if_neg c5, if_neg c6, if_neg (ne 62 (by omega) (by omega)), if_pos c7] at hk
    refine ⟨fun (a1 : ¬ x = y) => ?_, fun (a1 : x = y) => ?_⟩
    · rw [if_neg a1] at hk; exact hk
    · rw [if_pos a1] at hk; exact hk
  · rw [if_neg c3, if_neg c4, if_neg c2, if_neg c5, if_neg c6, if_pos c8] at hk
    refine ⟨fun (a1 : x ≤ y) => ?_, fun (a1 : ¬ x ≤ y) => ?_⟩
    · rw [if_neg (Int32.not_lt.mpr a1)] at hk; exact hk
    · rw [if_pos (Int32.not_le.mp a1)] at hk; exact hk
  · rw [if_neg c3, if_neg c4, if_neg c2, if_neg c5, if_neg c6, if_neg c8, if_neg c7, if_neg c1] at hk
    refine ⟨fun (a1 : ¬ x = 0) => ?_, fun (a1 : x = 0) => ⟨fun (a2 : y = 0) => ?_, fun (a2 : ¬ y = 0) => ?_⟩⟩
    · rw [if_pos (Or.inl a1)] at hk; exact hk
    · rw [if_neg (fun h => h.elim (fun q => q a1) (fun q => q a2))] at hk; exact hk
    · rw [if_pos (Or.inr a2)] at hk; exact hk
  · exfalso
    rcases hn with rfl | rfl | rfl | rfl | rfl | rfl | rfl | rfl | rfl
    · exact c1 rfl
    · exact c2 rfl
    · exact c3 rfl
    · exact c4 rfl
    · exact c5 rfl
    · exact c6 rfl
    · exact c7 rfl
    · exact c8 rfl
    · exact c9 rfl
end
