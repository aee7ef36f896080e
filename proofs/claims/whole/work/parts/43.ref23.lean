/-! ===== the reference: guards by lot ===== -/
theorem gs_remn {c b : Nat} (hc : c < 2 ^ 31) (hb : 0 < b) (hb2 : b < 2 ^ 31) : nI c - nI c / nI b * nI b = nI (c % b) := by
  rw [pk_div hc hb hb2, pk_mul, pk_sub (Nat.div_mul_le_self c b)]
  congr 1
  have := Nat.div_add_mod c b
  rw [Nat.mul_comm] at this
  omega
def gs_free (h : Nat → Bool) : Nat → Nat → Nat
  | 0, p => p
  | f + 1, p => if h p then gs_free h f ((p + 1) % 20) else p
def gs_occ (s : Nat → Int32) (n p : Nat) : Bool := decide (gs_who s n (nI p) < n)
def gs_drawS (s : Nat → Int32) : Nat → Int32 := upd s 11 (gs_draw (s 11))
def gs_drawV (s : Nat → Int32) (b : Nat) : Nat := (gs_dv (gs_draw (s 11))).toNatClampNeg % b
def gs_deal1 (n : Nat) (s : Nat → Int32) : Nat → Int32 :=
  gs_comes (gs_drawS (gs_drawS (gs_drawS s))) n (nI (gs_drawV s 6)) (nI (gs_free (gs_occ s n) 20 (gs_drawV (gs_drawS s) 20))) (nI (gs_drawV (gs_drawS (gs_drawS s)) 60))
def gs_dealt (n : Nat) (s : Nat → Int32) : Nat → Nat → Int32
  | 0 => s
  | k + 1 => gs_deal1 (n + k) (gs_dealt n s k)
theorem gs_drawV_eq (s : Nat → Int32) {b : Nat} (hb : 0 < b) (hb2 : b < 2 ^ 31) : gs_dv (gs_draw (s 11)) - gs_dv (gs_draw (s 11)) / nI b * nI b = nI (gs_drawV s b) := by
  obtain ⟨c, e, hc⟩ := gs_dv_nat (gs_draw (s 11))
  unfold gs_drawV
  rw [e, gs_remn (by omega) hb hb2, nI_clamp (by omega)]
theorem gs_who_up (s : Nat → Int32) (v : Int32) (p : Int32) : ∀ n, gs_who (upd s 11 v) n p = gs_who s n p := by
  intro n
  unfold gs_who
  congr 1
  funext k
  rw [pk_un (by omega)]
section
variable {d m : Nat} {I : sx_I} {rw : Nat → Nat → Option Nat} {ln : Nat → Nat} {K : sx_K}
theorem v_dealF {n i c k : Nat} (hn : I 79 0 = nI n) (hn10 : n ≤ 10) : ∀ (f p : Nat), p < 20 → (∃ j, j ≤ f ∧ gs_occ (I 79) n ((p + j) % 20) = false) → 
    sx_V 142 (d + 3) 0 0 K 50 [(0, .ref 78), (1, .int (nI c)), (2, .int (nI i)), (3, .int (nI k)), (4, .int (nI (gs_free (gs_occ (I 79) n) f p)))] [] I (sx_run rw m ln) → sx_V 142 (d + 3) 0 0 K 50 [(0, .ref 78), (1, .int (nI c)), (2, .int (nI i)), (3, .int (nI k)), (4, .int (nI p))] [] I (sx_run rw m ln)
  | 0, p, _, _, h => h
  | f + 1, p, hp, ⟨j, hj, hf⟩, h => by
    cases e : gs_occ (I 79) n p with
    | false =>
      unfold gs_free at h
      rw [e] at h
      exact h
    | true =>
      unfold gs_free at h
      rw [e] at h
      have hw : ¬ gs_whoV (I 79) n (nI p) < 0 := by
        rw [gs_whoV_lt hn10]
        exact fun q => q (of_decide_eq_true e)
      refine sx_go m142 60 rfl (fun VV CC hV hC => ?_)
      refine hC _ _ _ _ _ (c_whose hn hn10 ⟨fun (c2 : gs_whoV (I 79) n (nI p) < 0) => absurd c2 hw, fun _ => ⟨by decide +kernel, hV _ _ _ _ _ _ _ ?_⟩⟩)
      rw [nI_add, gs_remn (by omega) (by omega) (by omega)]
      have hj0 : j ≠ 0 := by
        intro q
        subst q
        rw [Nat.add_zero, Nat.mod_eq_of_lt hp, e] at hf
        exact absurd hf (by decide)
      refine v_dealF hn hn10 f ((p + 1) % 20) (by omega) ⟨j - 1, by omega, ?_⟩ h
      have : ((p + 1) % 20 + (j - 1)) % 20 = (p + j) % 20 := by omega
      rw [this]
      exact hf
theorem gs_free_ok (h : Nat → Bool) : ∀ (f p : Nat), p < 20 → (∃ j, j ≤ f ∧ h ((p + j) % 20) = false) → h (gs_free h f p) = false ∧ gs_free h f p < 20
  | 0, p, hp, ⟨j, hj, hf⟩ => by
    have : j = 0 := by omega
    subst this
    rw [Nat.add_zero, Nat.mod_eq_of_lt hp] at hf
    exact ⟨hf, hp⟩
  | f + 1, p, hp, ⟨j, hj, hf⟩ => by
    unfold gs_free
    cases e : h p with
    | false => exact ⟨e, hp⟩
    | true =>
      have hj0 : j ≠ 0 := by
        intro q
        subst q
        rw [Nat.add_zero, Nat.mod_eq_of_lt hp, e] at hf
        exact absurd hf (by decide)
      refine gs_free_ok h f ((p + 1) % 20) (by omega) ⟨j - 1, by omega, ?_⟩
      have : ((p + 1) % 20 + (j - 1)) % 20 = (p + j) % 20 := by omega
      rw [this]
      exact hf
theorem gs_dealt_N {n : Nat} {s : Nat → Int32} (hn : s 0 = nI n) : ∀ k, gs_dealt n s k 0 = nI (n + k)
  | 0 => hn
  | k + 1 => by
    show gs_deal1 (n + k) (gs_dealt n s k) 0 = _
    unfold gs_deal1 gs_comes gs_set
    rw [pk_un (by omega), pk_un (by omega), pk_un (by omega), pk_un (by omega), pk_un (by omega), pk_us]
    rfl
theorem gs_occ_up (s : Nat → Int32) (v : Int32) (n : Nat) : gs_occ (upd s 11 v) n = gs_occ s n := by
  funext p
  unfold gs_occ
  rw [gs_who_up]
theorem v_deal50 {n i c k p : Nat} (hn : I 79 0 = nI n) (hn10 : n < 10) (ho : gs_occ (I 79) n p = false)
    (h : sx_V 142 (d + 3) 0 0 K 17 [(0, .ref 78), (1, .int (nI c)), (2, .int (nI (i + 1)))] [] (sx_up I 79 (gs_comes (gs_drawS (I 79)) n (nI k) (nI p) (nI (gs_drawV (I 79) 60)))) (sx_run rw m ln)) :
    sx_V 142 (d + 3) 0 0 K 50 [(0, .ref 78), (1, .int (nI c)), (2, .int (nI i)), (3, .int (nI k)), (4, .int (nI p))] [] I (sx_run rw m ln) := by
  have hw : gs_whoV (I 79) n (nI p) < 0 := by
    rw [gs_whoV_lt (by omega)]
    exact of_decide_eq_false ho
  refine sx_go m142 60 rfl (fun VV CC hV hC => ?_)
  refine hC _ _ _ _ _ (c_whose hn (by omega) ⟨fun (_ : gs_whoV (I 79) n (nI p) < 0) => ?_, fun (c2 : ¬ gs_whoV (I 79) n (nI p) < 0) => absurd hw c2⟩)
  refine hC _ _ _ _ _ (c_drawn ⟨by decide +kernel, ?_⟩)
  refine hC _ _ _ _ _ (c_comes (n := n) ?_ hn10 (hV _ _ _ _ _ _ _ ?_))
  · rw [sx_up_same, pk_un (by omega)]; exact hn
  · rw [sx_up_same, sx_upup, gs_drawV_eq _ (by omega) (by omega)]
    rw [nI_succ] at h
    exact h
theorem v_dealA {n i c k p : Nat} (hn : I 79 0 = nI n) (hn10 : n < 10) (hp : p < 20)
    (h : sx_V 142 (d + 3) 0 0 K 17 [(0, .ref 78), (1, .int (nI c)), (2, .int (nI (i + 1)))] [] (sx_up I 79 (gs_comes (gs_drawS (I 79)) n (nI k) (nI (gs_free (gs_occ (I 79) n) 20 p)) (nI (gs_drawV (I 79) 60)))) (sx_run rw m ln)) :
    sx_V 142 (d + 3) 0 0 K 50 [(0, .ref 78), (1, .int (nI c)), (2, .int (nI i)), (3, .int (nI k)), (4, .int (nI p))] [] I (sx_run rw m ln) := by
  have hf : ∃ j, j ≤ 20 ∧ gs_occ (I 79) n ((p + j) % 20) = false := by
    obtain ⟨j, hj, hf⟩ := gs_freepost (s := I 79) (n := n) (by omega) p
    exact ⟨j, by omega, decide_eq_false hf⟩
  exact v_dealF hn (by omega) 20 p hp hf (v_deal50 hn hn10 (gs_free_ok _ 20 p hp hf).1 h)
theorem v_deal {n c : Nat} {s : Nat → Int32} (hn : s 0 = nI n) (hn10 : n ≤ 10) (hc : c ≤ 10) (hk : K (some (.int (nI (min c (10 - n))))) (sx_up I 79 (gs_dealt n s (min c (10 - n)))) (sx_run rw m ln)) :
    ∀ (r k : Nat) (I' : sx_I), k + r = min c (10 - n) → I' = sx_up I 79 (gs_dealt n s k) → sx_V 142 (d + 3) 0 0 K 17 [(0, .ref 78), (1, .int (nI c)), (2, .int (nI k))] [] I' (sx_run rw m ln) := by
  refine sx_for (min c (10 - n)) (fun I' h => ?_) (fun k I' hk2 h ih => ?_)
  · have e0 : I' 79 0 = nI (n + min c (10 - n)) := by rw [h, sx_up_same, gs_dealt_N hn]
    rw [← h] at hk
    refine sx_go m142 60 rfl (fun VV CC hV hC => ?_)
    refine ⟨fun _ => hk, fun (c1 : ¬ nI c ≤ nI (min c (10 - n))) => ⟨0, ⟨rfl, by omega⟩, fun _ => hk, fun (c2 : ¬ nI 10 ≤ I' 79 0) => ?_⟩⟩
    exfalso
    rw [nI_leI (by omega) (by omega)] at c1
    rw [e0, nI_leI (by omega) (by omega)] at c2
    omega
  · have e79 : I' 79 = gs_dealt n s k := by rw [h, sx_up_same]
    have e0 : gs_dealt n s k 0 = nI (n + k) := gs_dealt_N hn k
    have e2 : sx_up (sx_up I' 79 (upd (I' 79) 11 (gs_draw (I' 79 11)))) 79 (upd (sx_up I' 79 (upd (I' 79) 11 (gs_draw (I' 79 11))) 79) 11 (gs_draw (sx_up I' 79 (upd (I' 79) 11 (gs_draw (I' 79 11))) 79 11))) = sx_up I' 79 (gs_drawS (gs_drawS (gs_dealt n s k))) := by
      rw [sx_up_same, sx_upup, e79]; rfl
    have e3 : gs_dv (gs_draw (sx_up I' 79 (upd (I' 79) 11 (gs_draw (I' 79 11))) 79 11)) = gs_dv (gs_draw (gs_drawS (gs_dealt n s k) 11)) := by
      rw [sx_up_same, e79]; rfl
    refine sx_go m142 100 rfl (fun VV CC hV hC => ?_)
    refine ⟨fun (c1 : nI c ≤ nI k) => ?_, fun c1 => ⟨0, ⟨rfl, by omega⟩, fun (c2 : nI 10 ≤ I' 79 0) => ?_, fun c2 => hC _ _ _ _ _ (c_drawn ⟨by decide +kernel, hC _ _ _ _ _ (c_drawn ⟨by decide +kernel, hV _ _ _ _ _ _ _ ?_⟩)⟩)⟩⟩
    · exfalso; rw [nI_leI (by omega) (by omega)] at c1; omega
    · exfalso; rw [e79, e0, nI_leI (by omega) (by omega)] at c2; omega
    · rw [e2, e3, e79, gs_drawV_eq _ (by omega) (by omega), gs_drawV_eq _ (by omega) (by omega)]
      refine v_dealA (n := n + k) (by rw [sx_up_same]; unfold gs_drawS; rw [pk_un (by omega), pk_un (by omega)]; exact e0) (by omega) (Nat.mod_lt _ (by omega)) ?_
      refine ih _ ?_
      rw [sx_up_same, sx_upup, h, sx_upup]
      unfold gs_drawS
      rw [gs_occ_up, gs_occ_up]
      rfl
def gs_deal (s : Nat → Int32) (v : Int32) : (Nat → Int32) × Int32 := if gs_in v (nI 1) (nI 10) = 0 then (s, -1000000001) else (gs_dealt (gs_N s) s (min v.toNatClampNeg (10 - gs_N s)), nI (min v.toNatClampNeg (10 - gs_N s)))
theorem c_deal {n : Nat} {v : Int32} (hn : I 79 0 = nI n) (hn10 : n ≤ 10) (hk : K (some (.int (gs_deal (I 79) v).2)) (sx_up I 79 (gs_deal (I 79) v).1) (sx_run rw m ln)) : sx_C 142 (d + 4) [.ref 78, .int v] I (sx_run rw m ln) K := by
  refine sx_enter (by decide +kernel) (Nat.le_of_ble_eq_true rfl) (sx_go m142 60 rfl (fun VV CC hV hC => ?_))
  refine hC _ _ _ _ _ (c_isIn rfl (by decide +kernel) (by decide +kernel) ⟨fun (c1 : ¬ gs_in v (nI 1) (nI 10) = 0) => hV _ _ _ _ _ _ _ ?_, fun (c1 : gs_in v (nI 1) (nI 10) = 0) => ?_⟩)
  · have hk := sx_kp (show gs_deal (I 79) v = _ from if_neg c1) hk
    rw [gs_N_eq hn hn10] at hk
    obtain ⟨c, rfl, h1, h2⟩ := gs_in_nat (by decide) c1 (by decide)
    rw [nI_clamp (by omega)] at hk
    exact v_deal (d := d + 1) hn hn10 h2 hk (min c (10 - n)) 0 I (by omega) (sx_upself I 79).symm
  · have hk := sx_kp (show gs_deal (I 79) v = _ from if_pos c1) hk
    rw [sx_upself] at hk
    exact hk
end
