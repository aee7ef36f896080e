/-! ===== the reference: the next word, number or sign ===== -/
def gy_nt (I J : sx_I) : Prop := J = sx_up I 78 (J 78) ∧ ∀ k, (k < 15 ∨ 19 < k) → J 78 k = I 78 k
def gy_raw (T : Nat → Nat) (n e p q : Nat) (J : sx_I) : Prop :=
  J 78 15 = nI p ∧ (n ≤ p → J 78 16 = nI p ∧ J 78 17 = 0) ∧ (p < n → J 78 16 = nI q ∧
    (gy_so (T p) = 3 → J 78 17 = nI 3 ∧ J 78 19 = nI (T p)) ∧
    (gy_so (T p) = 1 → ((p = e ∧ gy_w T e → J 78 17 = nI 4) ∧ (¬ (p = e ∧ gy_w T e) → J 78 17 = nI 1)) ∧ J 78 19 = if q - p = 1 then nI (T p) else 0) ∧
    (gy_so (T p) = 2 → ((((p = e ∧ gy_w T e) ∨ 4 < q - p) → J 78 17 = nI 4) ∧ (¬ ((p = e ∧ gy_w T e) ∨ 4 < q - p) → J 78 17 = nI 2)) ∧ (q - p ≤ 4 → J 78 18 = nI (gy_val T p (q - p)))))
theorem gy_rn_first {T : Nat → Nat} {n p s : Nat} (h : p < n) (hs : gy_so (T p) = s) : gy_rn T s (n - p) p = gy_rn T s (n - (p + 1)) (p + 1) := by
  have : n - p = (n - (p + 1)) + 1 := by omega
  rw [this]
  show (if _ then _ else _) = _
  rw [if_pos hs]
section
variable {d m : Nat} {I : sx_I} {rw : Nat → Nat → Option Nat} {ln : Nat → Nat} {K : sx_K} {T : Nat → Nat} {n : Nat}
theorem gy_nt.rf (I : sx_I) : gy_nt I I := ⟨(sx_upself I 78).symm, fun _ _ => rfl⟩
theorem gy_nt.put {I J : sx_I} (h : gy_nt I J) {k : Nat} {v : Int32} (hk : 15 ≤ k ∧ k ≤ 19) : gy_nt I (sx_up J 78 (upd (J 78) k v)) := by
  refine ⟨?_, fun i hi => ?_⟩
  · rw [sx_up_same]
    conv => lhs; rw [h.1]
    rw [sx_upup, sx_up_same]
  · rw [sx_up_same]
    exact (pk_un (by omega)).trans (h.2 i hi)
theorem gy_nt.ne {I J : sx_I} (h : gy_nt I J) {a : Nat} (ha : a ≠ 78) : J a = I a := by rw [h.1]; exact sx_up_ne ha
theorem gy_nt.bt {I J : sx_I} (h : gy_nt I J) (hT : gy_bt T n I) : gy_bt T n J := ⟨(h.2 14 (by omega)).trans hT.1, hT.2.1, fun i hi => by rw [h.ne (by decide)]; exact hT.2.2 i hi⟩
theorem v_nt34 {t : Int32} {e : Nat} (hT : gy_bt T n I) (he : e ≤ n) : ∀ (r p : Nat) (J : sx_I), p + r = n → gy_nt I J → J 78 16 = nI p →
    (∀ J', gy_nt I J' → J' 78 16 = nI (gy_bl T r p) → sx_V 174 (d + 3) 0 0 K 90 [(0, .ref 78), (1, .int (if ¬ t = 0 ∧ gy_bl T r p = e then nI 1 else nI 0))] [] J' (sx_run rw m ln)) →
    sx_V 174 (d + 3) 0 0 K 34 [(0, .ref 78), (1, .int t), (2, .int (nI e))] [] J (sx_run rw m ln)
  | r, p, J, hpr, hJ, h16, h => by
    have hn := (hJ.bt hT).1
    have hn9 := hT.2.1
    have fin : gy_bl T r p = p → ∀ (P Q : Prop), (t = 0 → sx_V 174 (d + 3) 0 0 K 90 [(0, .ref 78), (1, .int (nI 0))] [] J (sx_run rw m ln)) ∧ (¬ t = 0 → ((¬ nI e = J 78 16) → sx_V 174 (d + 3) 0 0 K 90 [(0, .ref 78), (1, .int (nI 0))] [] J (sx_run rw m ln)) ∧ (nI e = J 78 16 → sx_V 174 (d + 3) 0 0 K 90 [(0, .ref 78), (1, .int (nI 1))] [] J (sx_run rw m ln))) := by
      intro eb _ _
      have hh := h J hJ (by rw [eb]; exact h16)
      rw [eb] at hh
      rw [h16]
      refine ⟨fun c => ?_, fun c => ⟨fun c2 => ?_, fun c2 => ?_⟩⟩
      · rw [if_neg (fun q => q.1 c)] at hh; exact hh
      · rw [if_neg (fun q => c2 (by rw [q.2]))] at hh; exact hh
      · rw [if_pos ⟨c, ((nI_eq (by omega) (by omega)).mp c2).symm⟩] at hh; exact hh
    refine sx_go m174 60 rfl (fun VV CC hV hC => ?_)
    refine ⟨fun (c1 : J 78 14 ≤ J 78 16) => ?_, fun (c1 : ¬ J 78 14 ≤ J 78 16) => ?_⟩
    · rw [hn, h16, nI_leI (by omega) (by omega)] at c1
      have er : r = 0 := by omega
      subst er
      have f := fin rfl True True
      exact ⟨fun c2 => hV _ _ _ _ _ _ _ (f.1 c2), fun c2 => ⟨fun c3 => hV _ _ _ _ _ _ _ ((f.2 c2).1 c3), fun c3 => hV _ _ _ _ _ _ _ ((f.2 c2).2 c3)⟩⟩
    · rw [hn, h16, nI_leI (by omega) (by omega)] at c1
      obtain ⟨e1, l1⟩ := (hJ.bt hT).2.2 p (by omega)
      refine ⟨p, ⟨h16, by omega⟩, fun (c2 : ¬ J 91 p = nI 32) => ?_, fun (c2 : J 91 p = nI 32) => ?_⟩
      · have eb : gy_bl T r p = p := by
          cases r with
          | zero => rfl
          | succ r =>
            show (if _ then _ else _) = _
            rw [if_neg (fun q => c2 (by rw [e1, q]))]
        have f := fin eb True True
        exact ⟨fun c2 => hV _ _ _ _ _ _ _ (f.1 c2), fun c2 => ⟨fun c3 => hV _ _ _ _ _ _ _ ((f.2 c2).1 c3), fun c3 => hV _ _ _ _ _ _ _ ((f.2 c2).2 c3)⟩⟩
      · rw [e1, nI_eq (by omega) (by omega)] at c2
        obtain ⟨r', er⟩ : ∃ r', r = r' + 1 := ⟨r - 1, by omega⟩
        subst er
        have eb : gy_bl T (r' + 1) p = gy_bl T r' (p + 1) := if_pos c2
        rw [eb] at h
        refine hV _ _ _ _ _ _ _ (v_nt34 hT he r' (p + 1) _ (by omega) (hJ.put (k := 16) (by omega)) ?_ h)
        rw [sx_up_same, pk_us, h16, nI_add]
theorem v_nt128 {t : Int32} (hT : gy_bt T n I) {p0 : Nat} (hp0 : p0 < n) : ∀ (r p : Nat) (J : sx_I), p + r = n → p0 ≤ p → gy_nt I J → J 78 16 = nI p → J 78 15 = nI p0 →
    (∀ J', gy_nt I J' → J' 78 15 = nI p0 → J' 78 16 = nI (gy_rn T 1 r p) → J' 78 17 = (if t = 0 then nI 1 else nI 4) → J' 78 19 = (if gy_rn T 1 r p - p0 = 1 then nI (T p0) else 0) → K none J' (sx_run rw m ln)) →
    sx_V 174 (d + 3) 0 0 K 128 [(0, .ref 78), (1, .int t)] [] J (sx_run rw m ln)
  | r, p, J, hpr, hpp, hJ, h16, h15, h => by
    have hn9 := hT.2.1
    refine sx_go m174 100 rfl (fun VV CC hV hC => ?_)
    refine hC _ _ _ _ _ (c_isLetter (hJ.bt hT) h16 (by omega) ?_)
    by_cases c : p < n ∧ gy_so (T p) = 1
    · rw [if_pos c]
      refine ⟨fun (q : nI 1 = 0) => absurd q (by decide), fun _ => ?_⟩
      obtain ⟨r', er⟩ : ∃ r', r = r' + 1 := ⟨r - 1, by omega⟩
      subst er
      have eb : gy_rn T 1 (r' + 1) p = gy_rn T 1 r' (p + 1) := if_pos c.2
      rw [eb] at h
      refine hV _ _ _ _ _ _ _ (v_nt128 hT hp0 r' (p + 1) _ (by omega) (by omega) (hJ.put (k := 16) (by omega)) ?_ ?_ h)
      · rw [sx_up_same, pk_us, h16, nI_add]
      · rw [sx_up_same, pk_un (by decide)]; exact h15
    · rw [if_neg c]
      refine ⟨fun _ => ?_, fun q => absurd rfl q⟩
      have eb : gy_rn T 1 r p = p := by
        cases r with
        | zero => rfl
        | succ r =>
          show (if _ then _ else _) = _
          rw [if_neg (fun q => c ⟨by omega, q⟩)]
      rw [eb] at h
      obtain ⟨e1, l1⟩ := hT.2.2 p0 hp0
      have fin : ∀ x : Int32, x = (if t = 0 then nI 1 else nI 4) → ∀ J', J' = sx_up J 78 (upd (J 78) 17 x) → ((¬ J' 78 16 - J' 78 15 = nI 1 → K none (sx_up J' 78 (upd (J' 78) 19 (nI 0))) (sx_run rw m ln)) ∧ (J' 78 16 - J' 78 15 = nI 1 → K none (sx_up J' 78 (upd (J' 78) 19 (nI (T p0)))) (sx_run rw m ln))) := by
        intro x hx J' hJ'
        have e78 : J' 78 = upd (J 78) 17 x := by rw [hJ', sx_up_same]
        have e16 : J' 78 16 = nI p := by rw [e78, pk_un (by decide)]; exact h16
        have e15 : J' 78 15 = nI p0 := by rw [e78, pk_un (by decide)]; exact h15
        have nt : gy_nt I J' := hJ' ▸ hJ.put (k := 17) (by omega)
        have e17 : J' 78 17 = x := by rw [e78, pk_us]
        have go : ∀ y, y = (if p - p0 = 1 then nI (T p0) else 0) → K none (sx_up J' 78 (upd (J' 78) 19 y)) (sx_run rw m ln) := by
          intro y hy
          refine h _ (nt.put (k := 19) (by omega)) ?_ ?_ ?_ ?_
          · rw [sx_up_same, pk_un (by decide)]; exact e15
          · rw [sx_up_same, pk_un (by decide)]; exact e16
          · rw [sx_up_same, pk_un (by decide), e17]; exact hx
          · rw [sx_up_same, pk_us]; exact hy
        rw [e16, e15, pk_sub hpp]
        refine ⟨fun c2 => go _ ?_, fun c2 => go _ ?_⟩
        · rw [if_neg (fun q => c2 (by rw [q]))]; rfl
        · rw [if_pos ((nI_eq (by omega) (by omega)).mp c2)]
      refine ⟨fun (c1 : t = 0) => ?_, fun (c1 : ¬ t = 0) => ?_⟩
      · have f := fin (nI 1) (if_pos c1).symm _ rfl
        refine ⟨fun c2 => f.1 c2, fun c2 => ?_⟩
        refine ⟨p0, ⟨by rw [sx_up_same, pk_un (by decide)]; exact h15, by omega⟩, ?_⟩
        have e91 : (sx_up J 78 (upd (J 78) 17 (nI 1))) 91 p0 = nI (T p0) := by rw [sx_up_ne (by decide), hJ.ne (by decide)]; exact e1
        have := f.2 c2
        rw [← e91] at this
        exact this
      · have f := fin (nI 4) (if_neg c1).symm _ rfl
        refine ⟨fun c2 => f.1 c2, fun c2 => ?_⟩
        refine ⟨p0, ⟨by rw [sx_up_same, pk_un (by decide)]; exact h15, by omega⟩, ?_⟩
        have e91 : (sx_up J 78 (upd (J 78) 17 (nI 4))) 91 p0 = nI (T p0) := by rw [sx_up_ne (by decide), hJ.ne (by decide)]; exact e1
        have := f.2 c2
        rw [← e91] at this
        exact this
end
