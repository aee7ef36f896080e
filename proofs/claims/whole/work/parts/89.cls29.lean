/-! ===== the class: a text is made and written into the book ===== -/
section
variable {VV : sx_VT} {CC : sx_CT} {K : sx_K} {cd cs : List sx_E} {n mc ms pc npc i ci k N M t : Nat} {x : List Nat} {cv : Value} {L : sx_L} {r : List Value} {I : sx_I} {G : sx_G} {a b : Nat}
theorem sx_w_jsr {y : Int} (hl : Nat.ble r.length 4 = true) (h : sx_symG VV CC K cd n mc ms cs L r I G) : sx_symG VV CC K cd (n + 1) mc ms ((.jsr y, pc, npc, x, cv) :: cs) L (.ref a :: r) I G := by
  simp only [sx_symG, sx_stepG, hl]
  exact h
theorem sx_w_puti {v : Int32} (hal : sx_al G a = true) (hsh : sx_sh G a = (0, ci, N)) (h : sx_symG VV CC K cd n mc ms cs L r (sx_up I a (upd (I a) k v)) G) : sx_symG VV CC K cd (n + 1) mc ms ((.putfield i, pc, npc, ci :: k :: 0 :: x, cv) :: cs) L (.int v :: .ref a :: r) I G := by
  simp only [sx_symG, sx_stepG, hal, hsh, Nat.beq_refl]
  exact h
theorem sx_w_putr {v : Nat} (hal : sx_al G a = true) (hsh : sx_sh G a = (0, ci, N)) (h : sx_symG VV CC K cd n mc ms cs L r I (sx_upR G.1 a (fun i => if i = k then some v else G.1 a i), G.2)) : sx_symG VV CC K cd (n + 1) mc ms ((.putfield i, pc, npc, ci :: k :: 1 :: x, cv) :: cs) L (.ref v :: .ref a :: r) I G := by
  simp only [sx_symG, sx_stepG, hal, hsh, Nat.beq_refl]
  exact h
theorem sx_w_cpy {y : Nat} {kn na nb : Nat} {x1 x2 x3 : Int32} (hal : sx_al G a = true) (hsh : sx_sh G a = (1, 0, na)) (halb : sx_al G b = true) (hshb : sx_sh G b = (1, 0, nb)) (hb : 14 < b) (hl : Nat.ble r.length 4 = true) (h1 : x1 = nI kn) (h2 : x2 = nI 0) (h3 : x3 = nI 0) (hka : kn ≤ na) (hkb : kn ≤ nb) (h15 : 15 ≤ a) (h : sx_symG VV CC K cd n mc ms cs L r (sx_up I b (va_cpy (I a) (I b) 0 0 kn)) G) : sx_symG VV CC K cd (n + 1) mc ms ((.ret y, pc, npc, x, cv) :: cs) L (.int x1 :: .int x2 :: .ref b :: .int x3 :: .ref a :: r) I G := by
  simp only [sx_symG, sx_stepG, hal, hsh, halb, hshb, sx_blef hb, hl]
  exact ⟨kn, 0, 0, ⟨h1, h3, h2, by omega, by omega⟩, h15, h⟩
end
theorem sx_upRR {R : Nat → Nat → Option Nat} {a : Nat} {f g : Nat → Option Nat} : sx_upR (sx_upR R a f) a g = sx_upR R a g := by
  funext x
  unfold sx_upR
  by_cases h : x = a
  · rw [if_pos h, if_pos h]
  · rw [if_neg h, if_neg h, if_neg h]
theorem sx_upR_at {R : Nat → Nat → Option Nat} {a : Nat} {f : Nat → Option Nat} : sx_upR R a f a = f := if_pos rfl
/-- a text's code and stack are as long as it is -/
def gb_ln (ln : Nat → Nat) (u M : Nat) : Nat → Nat := fun i => if i = 202 + 3 * u then M else if i = 201 + 3 * u then M else ln i
section
variable {d u : Nat} {I : sx_I} {R : Nat → Nat → Option Nat} {ln : Nat → Nat} {K : sx_K}
theorem c1_copyOf {M : Nat} {x : Int32} (hx : x = nI M) (hM : M < 96) (hk : ∀ f, (∀ i, i < M → f i = I 47 i) → K (some (.ref (201 + 3 * u))) (sx_up I (201 + 3 * u) f) (R, .inr (3 * u + 2), fun i => if i = 201 + 3 * u then M else ln i)) : sx_C 227 (d + 2) [.ref 47, .int x] I (R, .inr (3 * u + 1), ln) K := by
  subst hx
  refine sx_enter (by decide +kernel) (Nat.le_of_ble_eq_true rfl) (sx_go m227 100 rfl (fun VV CC hV hC => ?_))
  have e97 : 200 + (3 * u + 1) = 201 + 3 * u := by omega
  have hmin : gs_min (nI 96) (nI M) = nI M := if_pos ((nI_ltI (by omega) (by omega)).mpr hM)
  refine ⟨fun _ => ⟨M, ⟨rfl, by omega, by omega, rfl, by decide⟩, ?_⟩, fun c => absurd ((nI_eq (by omega) (by omega)).mp c) (by omega)⟩
  rw [e97]
  have hal : sx_al (R, .inr (3 * u + 1 + 1), fun i => if i = 201 + 3 * u then M else ln i) (201 + 3 * u) = true := sx_al_t (by omega)
  have hsh : sx_sh (R, .inr (3 * u + 1 + 1), fun i => if i = 201 + 3 * u then M else ln i) (201 + 3 * u) = (1, 0, M) := by
    rw [sx_sh_c]; show (1, 0, if 201 + 3 * u = 201 + 3 * u then M else _) = _
    rw [if_pos rfl]
  refine hC _ _ _ _ _ (c_min ?_)
  rw [hmin]
  refine sx_w_cpy (cs := x227_31) (na := 96) rfl rfl hal hsh (by omega) rfl rfl rfl rfl (by omega) (Nat.le_refl _) (by decide) ?_
  rw [sx_upup, sx_up_ne (show 47 ≠ 201 + 3 * u by omega)]
  exact hk _ (fun i hi => va_cpy0 hi)
theorem c1_textInit {M : Nat} (h3 : I 46 3 = nI M) (hM : M < 96) (hR : R 46 2 = some 47) (hk : ∀ J, (∀ q, q < 200 + 3 * u → J q = I q) → J (200 + 3 * u) 0 = I 46 0 → J (200 + 3 * u) 1 = I 46 1 → (∀ i, i < M → J (201 + 3 * u) i = I 47 i) → K none J (sx_upR R (200 + 3 * u) (fun i => if i = 3 then some (202 + 3 * u) else if i = 2 then some (201 + 3 * u) else R (200 + 3 * u) i), .inr (3 * u + 3), gb_ln ln u M)) : sx_C 57 (d + 3) [.ref (200 + 3 * u), .ref 46] I (R, .inr (3 * u + 1), ln) K := by
  refine sx_enter (by decide +kernel) (Nat.le_of_ble_eq_true rfl) (sx_go m57 100 rfl (fun VV CC hV hC => ?_))
  have hal : sx_al (R, .inr (3 * u + 1), ln) (200 + 3 * u) = true := sx_al_t (by omega)
  have hsh : sx_sh (R, .inr (3 * u + 1), ln) (200 + 3 * u) = (0, 5, 4) := sx_sh_t u
  have ne : (46 : Nat) ≠ 200 + 3 * u := by omega
  refine sx_s_al (n := 99) (cs := x57_1) rfl ?_
  refine sx_w_jsr (n := 98) (cs := x57_4) rfl ?_
  refine sx_s_al (n := 97) (cs := x57_5) rfl ?_
  refine sx_s_al (n := 96) (cs := x57_6) rfl ?_
  refine sx_s_geti (n := 95) (cs := x57_9) rfl rfl ?_
  refine sx_w_puti (n := 94) (cs := x57_12) hal hsh ?_
  refine sx_s_al (n := 93) (cs := x57_13) rfl ?_
  refine sx_s_al (n := 92) (cs := x57_14) rfl ?_
  refine sx_s_geti (n := 91) (cs := x57_17) rfl rfl ?_
  refine sx_w_puti (n := 90) (cs := x57_20) hal hsh ?_
  rw [sx_up_ne ne]
  have fin : ∀ J1 J2 : sx_I, J1 = sx_up I (200 + 3 * u) (upd (I (200 + 3 * u)) 0 (I 46 0)) → J2 = sx_up J1 (200 + 3 * u) (upd (J1 (200 + 3 * u)) 1 (I 46 1)) → J2 46 3 = nI M ∧ ∀ f, (∀ i, i < M → f i = J2 47 i) → ∀ R' g', R' = sx_upR R (200 + 3 * u) (fun i => if i = 3 then some (202 + 3 * u) else if i = 2 then some (201 + 3 * u) else R (200 + 3 * u) i) → g' = gb_ln ln u M → K none (sx_up (sx_up J2 (201 + 3 * u) f) (200 + (3 * u + 2)) (fun _ => 0)) (R', .inr (3 * u + 2 + 1), g') := by
    intro J1 J2 e1 e2
    have g1 : ∀ q, q ≠ 200 + 3 * u → J2 q = I q := fun q hq => by rw [e2, sx_up_ne hq, e1, sx_up_ne hq]
    refine ⟨by rw [g1 46 ne]; exact h3, fun f hf R' g' eR eg => ?_⟩
    subst eR; subst eg
    refine hk _ (fun q hq => by rw [sx_up_ne (by omega), sx_up_ne (by omega)]; exact g1 q (by omega)) ?_ ?_ (fun i hi => ?_)
    · rw [sx_up_ne (by omega), sx_up_ne (by omega), e2, sx_up_same, pk_un (by decide), e1, sx_up_same, pk_us]
    · rw [sx_up_ne (by omega), sx_up_ne (by omega), e2, sx_up_same, pk_us]
    · rw [sx_up_ne (by omega), sx_up_same, hf i hi, g1 47 (by omega)]
  obtain ⟨f1, f3⟩ := fin _ _ rfl rfl
  refine sx_s_al (n := 89) (cs := x57_21) rfl ?_
  refine sx_s_al (n := 88) (cs := x57_22) rfl ?_
  refine sx_s_getr (n := 87) (cs := x57_25) rfl rfl hR ?_
  refine sx_s_al (n := 86) (cs := x57_26) rfl ?_
  refine sx_s_geti (n := 85) (cs := x57_29) rfl rfl ?_
  refine hC _ _ _ _ _ (c1_copyOf (d := d) f1 hM (fun f hf => ?_))
  have hal2 : ∀ R', sx_al (R', .inr (3 * u + 2), fun i => if i = 201 + 3 * u then M else ln i) (200 + 3 * u) = true := fun R' => sx_al_t (by omega)
  have hsh2 : ∀ R', sx_sh (R', .inr (3 * u + 2), fun i => if i = 201 + 3 * u then M else ln i) (200 + 3 * u) = (0, 5, 4) := fun R' => sx_sh_t u
  have hal3 : ∀ R', sx_al (R', .inr (3 * u + 2), fun i => if i = 201 + 3 * u then M else ln i) (201 + 3 * u) = true := fun R' => sx_al_t (by omega)
  have hsh3 : ∀ R', sx_sh (R', .inr (3 * u + 2), fun i => if i = 201 + 3 * u then M else ln i) (201 + 3 * u) = (1, 0, M) := fun R' => by
    rw [sx_sh_c]; show (1, 0, if 201 + 3 * u = 201 + 3 * u then M else _) = _
    rw [if_pos rfl]
  refine sx_w_putr (cs := x57_35) (hal2 _) (hsh2 _) ?_
  refine sx_s_al (cs := x57_36) rfl ?_
  refine sx_s_al (cs := x57_37) rfl ?_
  refine sx_s_getr (cs := x57_40) (hal2 _) (hsh2 _) (b := 201 + 3 * u) (by show sx_upR _ _ _ _ 2 = _; rw [sx_upR_at]; rfl) ?_
  refine sx_s_len (cs := x57_41) (hal3 _) (hsh3 _) ?_
  refine ⟨M, ⟨rfl, by omega, by omega, rfl, by decide⟩, ?_⟩
  refine sx_w_putr (cs := x57_46) (sx_al_t (by omega)) (sx_sh_t u) ?_
  have e22 : 200 + (3 * u + 2) = 202 + 3 * u := by omega
  refine f3 f hf _ _ ?_ (by rw [e22]; rfl)
  show sx_upR (sx_upR R (200 + 3 * u) (fun i => if i = 2 then some (201 + 3 * u) else R (200 + 3 * u) i)) (200 + 3 * u) (fun i => if i = 3 then some (200 + (3 * u + 2)) else sx_upR R (200 + 3 * u) (fun i => if i = 2 then some (201 + 3 * u) else R (200 + 3 * u) i) (200 + 3 * u) i) = _
  rw [sx_upRR, sx_upR_at, e22]
end
