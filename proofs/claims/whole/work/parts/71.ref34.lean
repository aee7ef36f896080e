/-! ===== the reference: term, sum, test, both, either over a piece ===== -/
def gy_post (T : Nat → Nat) (n a : Nat) (key : Int32) (I0 : sx_I) (l ls : Nat) (S : List Nat) (o : List (Nat × Nat)) (w br bg : Nat) (cmp : Nat → Int32) (ts : List (Nat × Nat × Nat)) (J : sx_I) (ts2 : List (Nat × Nat × Nat)) (P : List Nat) (o1 o2 : List (Nat × Nat)) (w2 : Nat) (cmp2 : Nat → Int32) : Prop :=
  gy_run n key ts S o w br bg true cmp = gy_run n key ts2 (P ++ S) o1 w2 br bg false cmp2 ∧ o2 = gy_ps P o1 ∧ (∀ c, c ∈ P → l ≤ gy_tn c) ∧ gy_stop ls (cmp2 br) ts2 ∧ (∀ k, k < br ∨ (k = br ∧ 4 ≤ l) → cmp2 k = cmp k) ∧
  gy_st T n a I0 ts2 o2 w2 br bg J ∧ o2.length + S.length + ts2.length ≤ 96 ∧ gy_ok key o2 ∧ gy_hg o2 = gy_hg o + 1 ∧ ts2.length ≤ ts.length
def gy_Lv (T : Nat → Nat) (n a : Nat) (key : Int32) (I0 : sx_I) (rw : Nat → Nat → Option Nat) (m : Nat) (ln : Nat → Nat) (l j dd N : Nat) : Prop :=
  ∀ (K : sx_K) (I : sx_I) (ts : List (Nat × Nat × Nat)) (S : List Nat) (o : List (Nat × Nat)) (w br bg : Nat) (cmp : Nat → Int32), gy_low l S → gy_st T n a I0 ts o w br bg I → (l ≤ 3 → cmp br = 0) → br ≤ 8 → bg ≤ 8 → 6 * (8 - br) + (8 - bg) ≤ N → o.length + S.length + ts.length ≤ 96 → gy_ok key o →
    (∀ J b, gy_fr a I0 J → J 78 15 = nI b → gy_run n key ts S o w br bg true cmp = .inl b → K (some (.int (nI 0))) J (sx_run rw m ln)) →
    (∀ J ts2 P o1 o2 w2 cmp2, gy_post T n a key I0 l l S o w br bg cmp ts J ts2 P o1 o2 w2 cmp2 → K (some (.int (nI 1))) J (sx_run rw m ln)) →
    sx_C j dd [.ref 78, .int key] I (sx_run rw m ln) K
section
variable {d m : Nat} {I I0 : sx_I} {rw : Nat → Nat → Option Nat} {ln : Nat → Nat} {K : sx_K} {T : Nat → Nat} {n a w br bg : Nat} {ts : List (Nat × Nat × Nat)} {o : List (Nat × Nat)} {key : Int32} {S : List Nat} {cmp : Nat → Int32}
theorem gy_post.run {l c p : Nat} {J : sx_I} {rest : List (Nat × Nat × Nat)} {P : List Nat} {o1 o2 : List (Nat × Nat)} {w2 : Nat} {cmp2 : Nat → Int32} (h : gy_post T n a key I0 l (l + 1) S o w br bg cmp ts J ((3, c, p) :: rest) P o1 o2 w2 cmp2) (hS : gy_low l S) (hc : gy_tn c = l) (h1 : 1 ≤ l) (h3 : l = 3 → cmp2 br = 0) :
    gy_run n key ts S o w br bg true cmp = gy_run n key rest (c :: S) o2 w2 br bg true (if l ≤ 3 then upd cmp2 br (if l = 3 then nI 1 else 0) else cmp2) := by
  rw [h.1, h.2.1]
  exact gy_run_join hc h1 h3 h.2.2.1 hS
theorem gy_post.join {l c p : Nat} {J J3 J4 : sx_I} {rest ts3 : List (Nat × Nat × Nat)} {P P3 : List Nat} {o1 o2 o3 o4 : List (Nat × Nat)} {w2 w4 : Nat} {cmp2 cmp4 : Nat → Int32} (h : gy_post T n a key I0 l (l + 1) S o w br bg cmp ts J ((3, c, p) :: rest) P o1 o2 w2 cmp2) (hS : gy_low l S) (hc : gy_tn c = l) (h1 : 1 ≤ l) (h3 : l = 3 → cmp2 br = 0)
    (h2 : gy_post T n a key I0 (l + 1) (l + 1) (c :: S) o2 w2 br bg (if l ≤ 3 then upd cmp2 br (if l = 3 then nI 1 else 0) else cmp2) rest J3 ts3 P3 o3 o4 w4 cmp4) (h4 : gy_st T n a I0 ts3 ((2, c) :: o4) w4 br bg J4) :
    gy_post T n a key I0 l (l + 1) S o w br bg cmp ts J4 ts3 (P3 ++ [c]) o3 ((2, c) :: o4) w4 cmp4 := by
  have e := h.run hS hc h1 h3
  obtain ⟨-, -, -, -, g5, -, -, g8, g9, g10⟩ := h
  obtain ⟨k1, k2, k3, k4, k5, -, k7, k8, k9, k10⟩ := h2
  have hc33 : c ≠ 33 := fun q => by rw [q] at hc; have : gy_tn 33 = 0 := by decide
                                    omega
  have el : ((3, c, p) :: rest).length = rest.length + 1 := rfl
  have eS : (c :: S).length = S.length + 1 := rfl
  have eo : ((2, c) :: o4).length = o4.length + 1 := rfl
  refine ⟨?_, ?_, fun x hx => ?_, k4, fun k hk => ?_, h4, by omega, ⟨k8, Or.inr (Or.inr (Or.inr ⟨rfl, by omega, by omega⟩))⟩, ?_, by omega⟩
  · rw [e, k1, List.append_assoc]; rfl
  · rw [gy_ps_snoc, k2]
  · rcases List.mem_append.mp hx with q | q
    · exact Nat.le_of_succ_le (k3 x q)
    · rw [List.mem_singleton.mp q, hc]; exact Nat.le_refl l
  · have e2 : cmp4 k = (if l ≤ 3 then upd cmp2 br (if l = 3 then nI 1 else 0) else cmp2) k := k5 k (by omega)
    rw [e2]
    by_cases c3 : l ≤ 3
    · rw [if_pos c3, pk_un (by omega)]; exact g5 k hk
    · rw [if_neg c3]; exact g5 k hk
  · show (if (2 : Nat) = 2 then (if c = 33 then _ else gy_hg o4 - 1) else _) = _
    rw [if_pos rfl, if_neg hc33, k9, g9]; rfl
theorem gy_post.sub {l : Nat} {J : sx_I} {ts2 : List (Nat × Nat × Nat)} {P : List Nat} {o1 o2 : List (Nat × Nat)} {w2 : Nat} {cmp2 : Nat → Int32} (h : gy_post T n a key I0 (l + 1) (l + 1) S o w br bg cmp ts J ts2 P o1 o2 w2 cmp2) : gy_post T n a key I0 l (l + 1) S o w br bg cmp ts J ts2 P o1 o2 w2 cmp2 :=
  ⟨h.1, h.2.1, fun c hc => Nat.le_of_succ_le (h.2.2.1 c hc), h.2.2.2.1, fun k hk => h.2.2.2.2.1 k (by omega), h.2.2.2.2.2⟩
theorem gy_post.fin {l : Nat} {J : sx_I} {ts2 : List (Nat × Nat × Nat)} {P : List Nat} {o1 o2 : List (Nat × Nat)} {w2 : Nat} {cmp2 : Nat → Int32} (h : gy_post T n a key I0 l (l + 1) S o w br bg cmp ts J ts2 P o1 o2 w2 cmp2) (hn : ∀ c p rest, ts2 = (3, c, p) :: rest → gy_tn c = l → gy_tn c = 3 ∧ cmp2 br ≠ 0) : gy_post T n a key I0 l l S o w br bg cmp ts J ts2 P o1 o2 w2 cmp2 := by
  refine ⟨h.1, h.2.1, h.2.2.1, ?_, h.2.2.2.2⟩
  have st := h.2.2.2.1
  cases ts2 with
  | nil => trivial
  | cons t rest =>
    obtain ⟨s, v, p⟩ := t
    intro hs
    rcases st hs with q | q
    · by_cases e : gy_tn v = l
      · exact Or.inr (hn v p rest (by rw [hs]) e)
      · exact Or.inl (by omega)
    · exact Or.inr q
theorem gy_low.up {l : Nat} (h : gy_low l S) : gy_low (l + 1) S := by
  cases S with
  | nil => trivial
  | cons c S => exact h.elim Or.inl (fun q => Or.inr ⟨q.1, by omega⟩)
theorem gy_tn5 {c : Nat} : gy_tn c = 5 ↔ c = 42 ∨ c = 47 := by
  unfold gy_tn; split <;> (try split) <;> (try split) <;> (try split) <;> (try split) <;> omega
theorem gy_tn4 {c : Nat} : gy_tn c = 4 ↔ c = 43 ∨ c = 45 := by
  unfold gy_tn; split <;> (try split) <;> (try split) <;> (try split) <;> (try split) <;> omega
theorem gy_tn3 {c : Nat} : gy_tn c = 3 ↔ c = 60 ∨ c = 61 ∨ c = 62 := by
  unfold gy_tn; split <;> (try split) <;> (try split) <;> (try split) <;> (try split) <;> omega
theorem gy_tn2 {c : Nat} : gy_tn c = 2 ↔ c = 38 := by
  unfold gy_tn; split <;> (try split) <;> (try split) <;> (try split) <;> (try split) <;> omega
theorem gy_tn1 {c : Nat} : gy_tn c = 1 ↔ c = 124 := by
  unfold gy_tn; split <;> (try split) <;> (try split) <;> (try split) <;> (try split) <;> omega
theorem v_lp184 {N e : Nat} (he : e = d + N + 4) (hB : gy_base T n a I0) (hL : gy_Lv T n a key I0 rw m ln 6 185 e N) (hS : gy_low 5 S) (hbr : br ≤ 8) (hbg : bg ≤ 8) (hN : 6 * (8 - br) + (8 - bg) ≤ N)
    (hF : ∀ J b, gy_fr a I0 J → J 78 15 = nI b → gy_run n key ts S o w br bg true cmp = .inl b → K (some (.int (nI 0))) J (sx_run rw m ln))
    (hT : ∀ J ts2 P o1 o2 w2 cmp2, gy_post T n a key I0 5 5 S o w br bg cmp ts J ts2 P o1 o2 w2 cmp2 → K (some (.int (nI 1))) J (sx_run rw m ln)) :
    ∀ (r : Nat) (J : sx_I) (ts2 : List (Nat × Nat × Nat)) (P : List Nat) (o1 o2 : List (Nat × Nat)) (w2 : Nat) (cmp2 : Nat → Int32), ts2.length ≤ r → gy_post T n a key I0 5 6 S o w br bg cmp ts J ts2 P o1 o2 w2 cmp2 → sx_V 184 (e + 1) 0 0 K 10 [(0, .ref 78), (1, .int key)] [] J (sx_run rw m ln)
  | r, J, ts2, P, o1, o2, w2, cmp2, hr, h => by
    have hst := h.2.2.2.2.2.1
    have v28 : ∀ c p rest, ts2 = (3, c, p) :: rest → gy_tn c = 5 → J 78 19 = nI c → sx_V 184 (e + 1) 0 0 K 28 [(0, .ref 78), (1, .int key)] [] J (sx_run rw m ln) := by
      intro c p rest ets hc h19
      subst ets
      obtain ⟨r', er⟩ : ∃ r', r = r' + 1 := ⟨r - 1, by have : ((3, c, p) :: rest).length = rest.length + 1 := rfl; omega⟩
      subst er
      have hrun := h.run hS hc (by decide) (fun q => absurd q (by decide))
      have hcnt := h.2.2.2.2.2.2.1
      have hok := h.2.2.2.2.2.2.2.1
      have el : ((3, c, p) :: rest).length = rest.length + 1 := rfl
      have eS : (c :: S).length = S.length + 1 := rfl
      refine sx_go m184 100 rfl (fun VV CC hV hC => ?_)
      subst he
      refine hC _ _ _ _ _ (c_next (d := d + N + 1) hB hst (by decide) (fun J1 h1 => ?_))
      refine hC _ _ _ _ _ (hL _ J1 rest (c :: S) o2 w2 br bg cmp2 (Or.inr ⟨by omega, by omega⟩) h1 (fun q => absurd q (by decide)) hbr hbg hN (by omega) hok (fun J2 b f1 f2 f3 => ?_) (fun J2 ts3 P3 o3 o4 w4 cmp4 h2 => ?_))
      · exact ⟨fun q => absurd rfl q, fun _ => ⟨Or.inl rfl, hF J2 b f1 f2 (hrun.trans f3)⟩⟩
      · have k7 := h2.2.2.2.2.2.2.1
        refine ⟨fun _ => ?_, fun (q : nI 1 = 0) => absurd q (by decide)⟩
        refine hC _ _ _ _ _ (c_stp (d := d + N + 3) (u := 2) (v := c) hB h2.2.2.2.2.2.1 (by omega) rfl h19 (fun J4 h4 _ _ => hV _ _ _ _ _ _ _ ?_))
        have k10 := h2.2.2.2.2.2.2.2.2.2
        exact v_lp184 rfl hB hL hS hbr hbg hN hF hT r' J4 ts3 (P3 ++ [c]) o3 ((2, c) :: o4) w4 cmp4 (by omega) (h.join hS hc (by decide) (fun q => absurd q (by decide)) h2 h4)
    subst he
    refine sx_go m184 100 rfl (fun VV CC hV hC => ?_)
    refine hC _ _ _ _ _ (c_sg (d := d + N + 3) (x := 42) hst.2.1 (by decide) rfl (fun p rest q q19 => ?_) (fun q42 => ?_))
    · exact ⟨fun _ => hV _ _ _ _ _ _ _ (v28 42 p rest q (by decide) q19), fun (q : nI 1 = 0) => absurd q (by decide)⟩
    · refine ⟨fun q => absurd rfl q, fun _ => ?_⟩
      refine hC _ _ _ _ _ (c_sg (d := d + N + 3) (x := 47) hst.2.1 (by decide) rfl (fun p rest q q19 => ?_) (fun q47 => ?_))
      · exact ⟨fun (q : nI 1 = 0) => absurd q (by decide), fun _ => hV _ _ _ _ _ _ _ (v28 47 p rest q (by decide) q19)⟩
      · refine ⟨fun _ => ⟨Or.inr rfl, hT J ts2 P o1 o2 w2 cmp2 (h.fin (fun c p rest q hc => ?_))⟩, fun q => absurd rfl q⟩
        rcases gy_tn5.mp hc with z | z
        · rw [z] at q; exact absurd q (q42 p rest)
        · rw [z] at q; exact absurd q (q47 p rest)
theorem c_term {N e : Nat} (he : e = d + N + 4) (hB : gy_base T n a I0) (hL : gy_Lv T n a key I0 rw m ln 6 185 e N) : gy_Lv T n a key I0 rw m ln 5 184 (e + 1) N := by
  intro K I ts S o w br bg cmp hS hst hc hbr hbg hN hcnt hok hF hT
  refine sx_enter (by decide +kernel) (Nat.le_of_ble_eq_true rfl) (sx_go m184 100 rfl (fun VV CC hV hC => ?_))
  refine hC _ _ _ _ _ (hL _ I ts S o w br bg cmp hS.up hst (fun q => absurd q (by decide)) hbr hbg hN hcnt hok (fun J2 b f1 f2 f3 => ?_) (fun J2 ts3 P3 o3 o4 w4 cmp4 h2 => ?_))
  · exact ⟨fun q => absurd rfl q, fun _ => ⟨Or.inl rfl, hF J2 b f1 f2 f3⟩⟩
  · exact ⟨fun _ => hV _ _ _ _ _ _ _ (v_lp184 he hB hL hS hbr hbg hN hF hT _ J2 ts3 P3 o3 o4 w4 cmp4 (Nat.le_refl _) h2.sub), fun (q : nI 1 = 0) => absurd q (by decide)⟩
end
