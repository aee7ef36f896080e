theorem gs_remn {c b : Nat} (hc : c < 2 ^ 31) (hb : 0 < b) (hb2 : b < 2 ^ 31) : nI c - nI c / nI b * nI b = nI (c % b) := by
  rw [pk_div hc hb hb2, pk_mul, pk_sub (Nat.div_mul_le_self c b)]
  congr 1
  have := Nat.div_add_mod c b
  rw [Nat.mul_comm] at this
  omega
def gs_free (h : Nat → Bool) : Nat → Nat → Nat
  | 0, p => p
  | f + 1, p => if h p then gs_free h f ((p + 1) % 20) else p
def gs_occ (s : Nat → Int32) (n p : Nat) : Bool := decide (gs_who s n (nI p) < n)
def gs_drawS (s : Nat → Int32) : Nat → Int32 := upd s 11 (gs_draw (s 11))
def gs_drawV (s : Nat → Int32) (b : Nat) : Nat := (gs_dv (gs_draw (s 11))).toNatClampNeg % b
def gs_deal1 (n : Nat) (s : Nat → Int32) : Nat → Int32 :=
  gs_comes (gs_drawS (gs_drawS (gs_drawS s))) n (nI (gs_drawV s 6)) (nI (gs_free (gs_occ s n) 20 (gs_drawV (gs_drawS s) 20))) (nI (gs_drawV (gs_drawS (gs_drawS s)) 60))
def gs_dealt (n : Nat) (s : Nat → Int32) : Nat → Nat → Int32
  | 0 => s
  | k + 1 => gs_deal1 (n + k) (gs_dealt n s k)
theorem gs_drawV_eq (s : Nat → Int32) {b : Nat} (hb : 0 < b) (hb2 : b < 2 ^ 31) : gs_dv (gs_draw (s 11)) - gs_dv (gs_draw (s 11)) / nI b * nI b = nI (gs_drawV s b) := by
  obtain ⟨c, e, hc⟩ := gs_dv_nat (gs_draw (s 11))
  unfold gs_drawV
  rw [e, gs_remn (by omega) hb hb2, nI_clamp (by omega)]
theorem gs_who_up (s : Nat → Int32) (v : Int32) (p : Int32) : ∀ n, gs_who (upd s 11 v) n p = gs_who s n p := by
  intro n
  unfold gs_who
  congr 1
  funext k
  rw [pk_un (by omega)]
section
variable {d m : Nat} {I : sx_I} {rw : Nat → Option Nat} {ln : Nat → Nat} {K : sx_K}
theorem v_dealF {n i c k : Nat} (hn : I 79 0 = nI n) (hn10 : n ≤ 10) : ∀ (f p : Nat), p < 20 → (∃ j, j ≤ f ∧ gs_occ (I 79) n ((p + j) % 20) = false) → 
    sx_V 142 (d + 3) 0 0 K 50 [(0, .ref 78), (1, .int (nI c)), (2, .int (nI i)), (3, .int (nI k)), (4, .int (nI (gs_free (gs_occ (I 79) n) f p)))] [] I (sx_run rw m ln) → sx_V 142 (d + 3) 0 0 K 50 [(0, .ref 78), (1, .int (nI c)), (2, .int (nI i)), (3, .int (nI k)), (4, .int (nI p))] [] I (sx_run rw m ln)
  | 0, p, _, _, h => h
  | f + 1, p, hp, ⟨j, hj, hf⟩, h => by
    cases e : gs_occ (I 79) n p with
    | false =>
      unfold gs_free at h
      rw [e] at h
      exact h
    | true =>
      unfold gs_free at h
      rw [e] at h
      have hw : ¬ gs_whoV (I 79) n (nI p) < 0 := by
        rw [gs_whoV_lt hn10]
        exact fun q => q (of_decide_eq_true e)
      refine sx_go m142 60 rfl (fun VV CC hV hC => ?_)
      refine hC _ _ _ _ _ (c_whose hn hn10 ⟨fun (c2 : gs_whoV (I 79) n (nI p) < 0) => absurd c2 hw, fun _ => ⟨by decide +kernel, hV _ _ _ _ _ _ _ ?_⟩⟩)
      rw [nI_add, gs_remn (by omega) (by omega) (by omega)]
      have hj0 : j ≠ 0 := by
        intro q
        subst q
        rw [Nat.add_zero, Nat.mod_eq_of_lt hp, e] at hf
        exact absurd hf (by decide)
      refine v_dealF hn hn10 f ((p + 1) % 20) (by omega) ⟨j - 1, by omega, ?_⟩ h
      have : ((p + 1) % 20 + (j - 1)) % 20 = (p + j) % 20 := by omega
      rw [this]
      exact hf
end
