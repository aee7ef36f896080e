/-! ===== the reference: a text's worth; looks; what is counted ===== -/
/-- all but the two rows that a text's working out uses -/
def gs_sc (I I' : sx_I) : Prop := ∀ a, a ≠ 92 → a ≠ 93 → I' a = I a
theorem gs_sc.rf (I : sx_I) : gs_sc I I := fun _ _ _ => rfl
theorem gs_sc.tr {I I' I2 : sx_I} (h : gs_sc I I') (h2 : gs_sc I' I2) : gs_sc I I2 := fun a h3 h4 => (h2 a h3 h4).trans (h a h3 h4)
theorem gs_sc.up {I I' : sx_I} (h : gs_sc I I') (a : Nat) (f : Nat → Int32) : gs_sc (sx_up I a f) (sx_up I' a f) := by
  intro b h1 h2
  unfold sx_up
  by_cases e : b = a
  · rw [if_pos e, if_pos e]
  · rw [if_neg e, if_neg e, h b h1 h2]
/-- what a text gives -/
def gs_res (l : List Int32) : Int32 := l.headD 0
def gs_work (nm : Nat → Int32) (s : Nat → Int32) (t : Nat) : Int32 := gs_res (gs_ev nm s t (s (64 + 200 * t)).toNatClampNeg)
section
variable {d m : Nat} {I : sx_I} {rw : Nat → Nat → Option Nat} {ln : Nat → Nat} {K : sx_K}
theorem gs_sub1 {n : Nat} (h : 1 ≤ n) : nI n - nI 1 = nI (n - 1) := pk_sub h
theorem gs_m1 {n : Nat} (h : 1 ≤ n) : nI n + -1 = nI (n - 1) := sb_m1 (by omega)
theorem v_worked {t M : Nat} {s : Nat → Int32} (hs : I 79 = s) (ht : gs_tok s t M) (hk : ∀ f, K (some (.int (gs_work (I 92) s t))) (sx_up I 93 f) (sx_run rw m ln)) :
    ∀ (r k : Nat) (f : Nat → Int32), k + r = M → gs_pile f (gs_ev (I 92) s t k) → sx_V 192 (d + 3) 0 0 K 4 [(0, .ref 78), (1, .int (nI t)), (2, .int (nI (gs_ht s t k))), (3, .int (nI k))] [] (sx_up I 93 f) (sx_run rw m ln) := by
  obtain ⟨ht14, hM, hM92, hend, hst⟩ := id ht
  have n79 : ∀ f, (sx_up I 93 f) 79 = s := fun f => (sx_up_ne (by omega)).trans hs
  have n92 : ∀ f, (sx_up I 93 f) 92 = I 92 := fun f => sx_up_ne (by omega)
  have ix2 : ∀ q c : Nat, nI q + nI c = nI (q + c) := fun q c => nI_add q c
  intro r
  induction r with
  | zero =>
    intro k f hk2 hp
    have : k = M := by omega
    subst this
    refine sx_go m192 60 rfl (fun VV CC hV hC => ?_)
    refine hC _ _ _ _ _ (c_textAt rfl ⟨64 + 200 * t, ⟨by rw [nI_add]; congr 1; omega, by omega⟩, fun c1 => ⟨0, ⟨rfl, by omega⟩, sx_kk ?_ (hk f)⟩, fun c1 => ?_⟩)
    · rw [sx_up_same]
      have hl := gs_ev_len (nm := I 92) ht k (Nat.le_refl _)
      rw [hend] at hl
      unfold gs_work gs_res
      rw [hM, nI_clamp (by omega)]
      cases he : gs_ev (I 92) s t k with
      | nil => rw [he] at hl; simp at hl
      | cons x q =>
        cases q with
        | nil => rw [he] at hp; exact hp.1
        | cons y q => rw [he] at hl; simp at hl
    · exfalso; rw [n79, hM] at c1; exact c1 (nI_le (Nat.le_refl _) (by omega))
  | succ r ih =>
    intro k f hk2 hp
    have hlen := gs_ev_len (nm := I 92) ht k (by omega)
    have hhk := gs_ht_le s t k
    obtain ⟨hA, hB⟩ := hst k (by omega)
    have e1 : nI (62 + 200 * t) + nI 4 + nI 2 * nI k = nI (66 + 200 * t + 2 * k) := by simp only [pk_mul, nI_add]; congr 1; omega
    have e2 : nI (62 + 200 * t) + nI 4 + nI 2 * nI k + nI 1 = nI (67 + 200 * t + 2 * k) := by simp only [pk_mul, nI_add]; congr 1; omega
    refine sx_go m192 100 rfl (fun VV CC hV hC => ?_)
    refine hC _ _ _ _ _ (c_textAt rfl ⟨64 + 200 * t, ⟨by rw [nI_add]; congr 1; omega, by omega⟩, fun c1 => ?_, fun c1 => ?_⟩)
    · exfalso; rw [n79, hM] at c1; exact nI_ge (show k < M by omega) (by omega) c1
    · refine hC _ _ _ _ _ (c_textAt rfl ⟨66 + 200 * t + 2 * k, ⟨e1, by omega⟩, ?_⟩)
      refine hC _ _ _ _ _ (c_textAt rfl ⟨67 + 200 * t + 2 * k, ⟨e2, by omega⟩, ?_⟩)
      refine ⟨fun (c2 : _ = _) => ?_, fun (c2 : ¬ _ = _) => ?_⟩
      · rw [n79] at c2
        obtain ⟨h33, hn33⟩ := hA c2
        refine ⟨fun (c3 : ¬ _ = _) => ?_, fun (c3 : _ = _) => ?_⟩
        · rw [n79] at c3
          have h2 := hn33 c3
          cases he : gs_ev (I 92) s t k with
          | nil => rw [he] at hlen; simp at hlen; omega
          | cons y q1 =>
            cases q1 with
            | nil => rw [he] at hlen; simp at hlen; omega
            | cons x q =>
              rw [he] at hlen hp
              simp only [List.length_cons] at hlen
              obtain ⟨p1, p2, p3⟩ := hp
              simp only [List.length_cons] at p1
              have hev : gs_ev (I 92) s t (k + 1) = gs_join (s (67 + 200 * t + 2 * k)) x y :: q := by
                show gs_op _ _ _ (gs_ev (I 92) s t k) = _
                unfold gs_op; rw [if_pos c2, if_neg c3, he]
              have hht : gs_ht s t (k + 1) = q.length + 1 := by
                show (if _ then _ else _) = _
                rw [if_pos c2, if_neg c3]; omega
              refine ⟨q.length, ⟨by rw [gs_m1 (by omega), gs_sub1 (by omega)]; congr 1; omega, by omega⟩, q.length + 1, ⟨by rw [gs_m1 (by omega)]; congr 1; omega, by omega⟩, ?_⟩
              refine hC _ _ _ _ _ (c_joined ⟨q.length, ⟨by rw [gs_m1 (by omega), gs_sub1 (by omega)]; congr 1; omega, by omega⟩, hV _ _ _ _ _ _ _ ?_⟩)
              rw [n79, sx_up_same, sx_upup, p1, p2]
              have := ih (k + 1) (upd f q.length (gs_join (s (67 + 200 * t + 2 * k)) x y)) (by omega) (by rw [hev]; exact ⟨pk_us, gs_pile_upd _ _ _ _ (Nat.le_refl _) p3⟩)
              rw [hht, nI_succ k] at this
              have e3 : nI (gs_ht s t k) + -1 = nI (q.length + 1) := by rw [gs_m1 (by omega)]; congr 1; omega
              show sx_V 192 (d + 3) 0 0 K 4 [(0, .ref 78), (1, .int (nI t)), (2, .int (nI (gs_ht s t k) + -1)), (3, .int (nI k + nI 1))] [] _ _
              rw [e3]
              exact this
        · rw [n79] at c3
          have h2 := h33 c3
          cases he : gs_ev (I 92) s t k with
          | nil => rw [he] at hlen; simp at hlen; omega
          | cons x q =>
            rw [he] at hlen hp
            simp only [List.length_cons] at hlen
            obtain ⟨p1, p3⟩ := hp
            have hht : gs_ht s t (k + 1) = gs_ht s t k := by
              show (if _ then _ else _) = _
              rw [if_pos c2, if_pos c3]
            have hix : nI (gs_ht s t k) - nI 1 = nI q.length := by rw [gs_sub1 (by omega)]; congr 1; omega
            have fin : ∀ v : Int32, v = (if x = 0 then nI 1 else nI 0) → sx_V 192 (d + 3) 0 0 K 4 [(0, .ref 78), (1, .int (nI t)), (2, .int (nI (gs_ht s t k))), (3, .int (nI k + nI 1))] [] (sx_up (sx_up I 93 f) 93 (upd ((sx_up I 93 f) 93) q.length v)) (sx_run rw m ln) := by
              intro v hv
              have hev : gs_ev (I 92) s t (k + 1) = v :: q := by
                show gs_op _ _ _ (gs_ev (I 92) s t k) = _
                unfold gs_op; rw [if_pos c2, if_pos c3, he, hv]
              have := ih (k + 1) (upd f q.length v) (by omega) (by rw [hev]; exact ⟨pk_us, gs_pile_upd _ _ _ _ (Nat.le_refl _) p3⟩)
              rw [hht, nI_succ] at this
              rw [sx_upup, sx_up_same]
              exact this
            refine ⟨q.length, ⟨hix, by omega⟩, fun (c4 : ¬ _ = _) => ⟨q.length, ⟨hix, by omega⟩, hV _ _ _ _ _ _ _ (fin _ ?_)⟩, fun (c4 : _ = _) => ⟨q.length, ⟨hix, by omega⟩, hV _ _ _ _ _ _ _ (fin _ ?_)⟩⟩
            · rw [sx_up_same, p1] at c4; exact (if_neg c4).symm
            · rw [sx_up_same, p1] at c4; exact (if_pos c4).symm
      · rw [n79] at c2
        have hht : gs_ht s t (k + 1) = gs_ht s t k + 1 := if_neg c2
        have fin : ∀ v : Int32, v = (if s (66 + 200 * t + 2 * k) = 0 then s (67 + 200 * t + 2 * k) else I 92 (s (67 + 200 * t + 2 * k)).toNatClampNeg) → sx_V 192 (d + 3) 0 0 K 4 [(0, .ref 78), (1, .int (nI t)), (2, .int (nI (gs_ht s t k) + nI 1)), (3, .int (nI k + nI 1))] [] (sx_up (sx_up I 93 f) 93 (upd ((sx_up I 93 f) 93) (gs_ht s t k) v)) (sx_run rw m ln) := by
          intro v hv
          have hev : gs_ev (I 92) s t (k + 1) = v :: gs_ev (I 92) s t k := by
            show gs_op _ _ _ (gs_ev (I 92) s t k) = _
            unfold gs_op; rw [if_neg c2, hv]
          have := ih (k + 1) (upd f (gs_ht s t k) v) (by omega) (by rw [hev]; exact ⟨by rw [hlen]; exact pk_us, gs_pile_upd _ _ _ _ (by omega) hp⟩)
          rw [hht, nI_succ, nI_succ] at this
          rw [sx_upup, sx_up_same]
          exact this
        refine ⟨fun (c3 : ¬ _ = _) => ?_, fun (c3 : _ = _) => ⟨gs_ht s t k, ⟨rfl, by omega⟩, hV _ _ _ _ _ _ _ (fin _ ?_)⟩⟩
        · rw [n79] at c3
          obtain ⟨c, hc, hc128, -⟩ := hB c2 c3
          refine ⟨c, ⟨by rw [n79]; exact hc, hc128⟩, gs_ht s t k, ⟨rfl, by omega⟩, hV _ _ _ _ _ _ _ (fin _ ?_)⟩
          rw [if_neg c3, hc, nI_clamp (by omega), n92]
        · rw [n79] at c3 ⊢
          rw [if_pos c3]
theorem c_worked {t M : Nat} {x : Int32} (hx : x = nI t) (ht : gs_tok (I 79) t M) (hk : ∀ f, K (some (.int (gs_work (I 92) (I 79) t))) (sx_up I 93 f) (sx_run rw m ln)) : sx_C 192 (d + 3) [.ref 78, .int x] I (sx_run rw m ln) K := by
  subst hx
  refine sx_enter (by decide +kernel) (Nat.le_of_ble_eq_true rfl) (sx_go m192 60 rfl (fun VV CC hV hC => hV _ _ _ _ _ _ _ ?_))
  have := v_worked (d := d) rfl ht hk M 0 (I 93) (by omega) trivial
  rw [sx_upself] at this
  exact this
/-- the texts of a row as they should be -/
def gs_tx (s : Nat → Int32) : Prop := ∃ T, s 1 = nI T ∧ T ≤ 14 ∧ ∀ t, t < T → ∃ M, gs_tok s t M
theorem gs_counts_lt (s : Nat → Int32) (key : Int32) : ∀ T, T ≤ 14 → gs_counts s key T = -1 ∨ ∃ t, t < T ∧ gs_counts s key T = nI t
  | 0, _ => Or.inl rfl
  | T + 1, h => by
    unfold gs_counts
    split
    · exact Or.inr ⟨T, by omega, rfl⟩
    · rcases gs_counts_lt s key T (by omega) with q | ⟨t, q1, q2⟩
      · exact Or.inl q
      · exact Or.inr ⟨t, by omega, q2⟩
def gs_nm3 (w d p : Int32) (f : Nat → Int32) : Nat → Int32 := upd (upd (upd f 119 w) 100 d) 112 p
/-- the plain look of a guard -/
def gs_plain (s : Nat → Int32) (g : Nat) : Int32 :=
  if gs_counts s 0 (s 1).toNatClampNeg < 0 then nI 60 - s (12 + 5 * g + 2) / nI 2
  else gs_wi (gs_work (gs_nm3 (s (12 + 5 * g + 2)) (s (12 + 5 * g + 3)) (s (12 + 5 * g + 1)) (fun _ => 0)) s (gs_counts s 0 (s 1).toNatClampNeg).toNatClampNeg) (nI 99)
end
