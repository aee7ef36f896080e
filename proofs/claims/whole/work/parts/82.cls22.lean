/-! ===== the class: its words ===== -/
def gy_wb (B i : Nat) : Nat := ((([[108, 111, 111, 107], [102, 101, 101], [102, 105, 110, 101], [119, 100, 112], [104, 108], [119, 100]] : List (List Nat)).getD (B - 2) []).getD i 0)
theorem gy_nrc (x : Nat) (h : x < 128) : sx_nrw 3 (nI x) := by
  have q : ∀ x, x < 128 → ((nI x).toUInt32 % 65536).toInt32 = nI x := by decide +kernel
  exact congrArg _ (q x h)
section
variable {d m : Nat} {I I0 : sx_I} {rw : Nat → Nat → Option Nat} {ln : Nat → Nat} {K : sx_K} {T : Nat → Nat} {n w br bg : Nat} {S : List Nat} {o : List (Nat × Nat)} {due : Bool} {cmp : Nat → Int32} {key : Int32}
theorem c_coder_2 (hk : K (some (.int (nI 0))) I (sx_run rw m ln)) : sx_C 219 (d + 1) [.ref 2] I (sx_run rw m ln) K := by
  refine sx_enter (by decide +kernel) (Nat.le_of_ble_eq_true rfl) (sx_go m219 60 rfl (fun VV CC hV hC => ?_))
  refine ⟨fun (z : nI 1 = 0) => absurd z (by decide), fun _ => ?_⟩
  exact ⟨rfl, hk⟩
theorem c_latin_2 (hk : K (some (.int (nI 1))) I (sx_run rw m ln)) : sx_C 220 (d + 1) [.ref 2] I (sx_run rw m ln) K := by
  refine sx_enter (by decide +kernel) (Nat.le_of_ble_eq_true rfl) (sx_go m220 60 rfl (fun VV CC hV hC => ?_))
  refine ⟨fun (z : nI 1 = 0) => absurd z (by decide), fun _ => ⟨fun z => absurd rfl z, fun _ => ⟨Or.inr rfl, hk⟩⟩⟩
theorem c_len_2 (hk : K (some (.int (nI 4))) I (sx_run rw m ln)) : sx_C 215 (d + 2) [.ref 2] I (sx_run rw m ln) K := by
  refine sx_enter (by decide +kernel) (Nat.le_of_ble_eq_true rfl) (sx_go m215 60 rfl (fun VV CC hV hC => ?_))
  exact hC _ _ _ _ _ (c_coder_2 (sx_kk (by decide +kernel) hk))
theorem c_chk_2 {i : Nat} {x y : Int32} {G : sx_G} (hx : x = nI i) (hy : y = nI 4) (hi : i < 4) (hk : K none I G) : sx_C 221 (d + 2) [.int x, .int y] I G K := by
  subst hx; subst hy
  refine sx_enter (by decide +kernel) (Nat.le_of_ble_eq_true rfl) (sx_go m221 60 rfl (fun VV CC hV hC => ?_))
  refine hC _ _ _ _ _ (sx_enter (by decide +kernel) (Nat.le_of_ble_eq_true rfl) (sx_go m228 60 rfl (fun VV CC hV hC => ?_)))
  refine ⟨fun z => absurd ((nI_ltI (b := 0) (by omega) (by omega)).mp z) (by omega), fun _ => ⟨fun _ => hk, fun z => absurd (nI_lt hi (by decide)) z⟩⟩
theorem c_at_2 {i : Nat} {x : Int32} (hx : x = nI i) (hi : i < 4) (hk : K (some (.int (nI (gy_wb 2 i)))) I (sx_run rw m ln)) : sx_C 216 (d + 4) [.ref 2, .int x] I (sx_run rw m ln) K := by
  have ev : ∀ i, i < 4 → (((sx_rom (8) i) &&& nI 255).toUInt32 % 65536).toInt32 = nI (gy_wb 2 i) := by decide +kernel
  have en : ∀ i, i < 4 → sx_nrw 3 (nI (gy_wb 2 i)) := fun i hi => gy_nrc _ ((by decide : ∀ i, i < 4 → gy_wb 2 i < 128) i hi)
  have go : ∀ z : Int32, z = nI (gy_wb 2 i) → sx_nrw 3 z ∧ sx_nrw 3 z ∧ K (some (.int z)) I (sx_run rw m ln) := fun z e => ⟨e ▸ en i hi, e ▸ en i hi, e ▸ hk⟩
  refine sx_enter (by decide +kernel) (Nat.le_of_ble_eq_true rfl) (sx_go m216 60 rfl (fun VV CC hV hC => ?_))
  refine hC _ _ _ _ _ (c_latin_2 (d := d + 2) ⟨fun (z : nI 1 = 0) => absurd z (by decide), fun _ => ?_⟩)
  refine hC _ _ _ _ _ (sx_enter (by decide +kernel) (Nat.le_of_ble_eq_true rfl) (sx_go m222 60 rfl (fun VV CC hV hC => ?_)))
  refine hC _ _ _ _ _ (c_chk_2 (d := d) hx rfl hi ⟨i, ⟨hx, hi⟩, ?_⟩)
  exact go _ (ev i hi)
theorem v_word_2 {p : Nat} (hT : gy_b5 T n I) (hp : p + 4 ≤ n) (h1 : (∀ i, i < 4 → T (p + i) = gy_wb 2 i) → K (some (.int (nI 1))) I (sx_run rw m ln)) (h0 : ¬ (∀ i, i < 4 → T (p + i) = gy_wb 2 i) → K (some (.int (nI 0))) I (sx_run rw m ln)) :
    ∀ (r k : Nat), k + r = 4 → (∀ i, i < k → T (p + i) = gy_wb 2 i) → sx_V 38 (d + 5) 0 0 K 15 [(0, .ref 50), (1, .int (nI p)), (3, .ref 2), (4, .int (nI k))] [] I (sx_run rw m ln)
  | r, k, hkr, hs => by
    have hn := hT.1
    have wl : ∀ i, i < 4 → gy_wb 2 i < 128 := by decide
    refine sx_go m38 100 rfl (fun VV CC hV hC => ?_)
    refine hC _ _ _ _ _ (c_len_2 (d := d + 2) ⟨fun (c : nI 4 ≤ nI k) => ?_, fun (c : ¬ nI 4 ≤ nI k) => ?_⟩)
    · rw [nI_leI (by omega) (by omega)] at c
      exact ⟨Or.inr rfl, h1 (fun i hi => hs i (by omega))⟩
    · rw [nI_leI (by omega) (by omega)] at c
      obtain ⟨r', er⟩ : ∃ r', r = r' + 1 := ⟨r - 1, by omega⟩
      subst er
      obtain ⟨e1, l1⟩ := hT.2 (p + k) (by omega)
      have eq := gy_sb_eq (T (p + k)) l1 (gy_wb 2 k) (wl k (by omega))
      refine ⟨p + k, ⟨nI_add p k, by omega⟩, hC _ _ _ _ _ (c_at_2 (d := d) rfl (by omega) ⟨fun (z : I 50 (p + k) = nI (gy_wb 2 k)) => ?_, fun (z : ¬ I 50 (p + k) = nI (gy_wb 2 k)) => ⟨Or.inl rfl, h0 (fun y => z (e1.trans (eq.mpr (y k (by omega)))))⟩⟩)⟩
      have := v_word_2 hT hp h1 h0 r' (k + 1) (by omega) (fun i hi => by
        by_cases ek : i = k
        · rw [ek]; exact eq.mp (e1.symm.trans z)
        · exact hs i (by omega))
      rw [nI_succ] at this
      exact hV _ _ _ _ _ _ _ this
theorem c_word_2 {p q : Nat} {x y : Int32} (hx : x = nI p) (hy : y = nI q) (hT : gy_b5 T n I) (hpq : p ≤ q) (hq : q ≤ n) (h1 : q - p = 4 → (∀ i, i < 4 → T (p + i) = gy_wb 2 i) → K (some (.int (nI 1))) I (sx_run rw m ln)) (h0 : ¬ (q - p = 4 ∧ ∀ i, i < 4 → T (p + i) = gy_wb 2 i) → K (some (.int (nI 0))) I (sx_run rw m ln)) : sx_C 38 (d + 5) [.ref 50, .int x, .int y, .ref 2] I (sx_run rw m ln) K := by
  subst hx; subst hy
  have hn := hT.1
  have es : nI q - nI p = nI (q - p) := pk_sub hpq
  refine sx_enter (by decide +kernel) (Nat.le_of_ble_eq_true rfl) (sx_go m38 100 rfl (fun VV CC hV hC => ?_))
  refine hC _ _ _ _ _ (c_len_2 (d := d + 2) ⟨fun (c : nI q - nI p = nI 4) => ?_, fun (c : ¬ nI q - nI p = nI 4) => ⟨Or.inl rfl, h0 (fun z => c (by rw [es, z.1]))⟩⟩)
  rw [es, nI_eq (by omega) (by omega)] at c
  exact hV _ _ _ _ _ _ _ (v_word_2 hT (by omega) (h1 c) (fun z => h0 (fun y => z y.2)) 4 0 (by omega) (fun i hi => absurd hi (Nat.not_lt_zero i)))
theorem c_coder_3 (hk : K (some (.int (nI 0))) I (sx_run rw m ln)) : sx_C 219 (d + 1) [.ref 3] I (sx_run rw m ln) K := by
  refine sx_enter (by decide +kernel) (Nat.le_of_ble_eq_true rfl) (sx_go m219 60 rfl (fun VV CC hV hC => ?_))
  refine ⟨fun (z : nI 1 = 0) => absurd z (by decide), fun _ => ?_⟩
  exact ⟨rfl, hk⟩
theorem c_latin_3 (hk : K (some (.int (nI 1))) I (sx_run rw m ln)) : sx_C 220 (d + 1) [.ref 3] I (sx_run rw m ln) K := by
  refine sx_enter (by decide +kernel) (Nat.le_of_ble_eq_true rfl) (sx_go m220 60 rfl (fun VV CC hV hC => ?_))
  refine ⟨fun (z : nI 1 = 0) => absurd z (by decide), fun _ => ⟨fun z => absurd rfl z, fun _ => ⟨Or.inr rfl, hk⟩⟩⟩
theorem c_len_3 (hk : K (some (.int (nI 3))) I (sx_run rw m ln)) : sx_C 215 (d + 2) [.ref 3] I (sx_run rw m ln) K := by
  refine sx_enter (by decide +kernel) (Nat.le_of_ble_eq_true rfl) (sx_go m215 60 rfl (fun VV CC hV hC => ?_))
  exact hC _ _ _ _ _ (c_coder_3 (sx_kk (by decide +kernel) hk))
theorem c_chk_3 {i : Nat} {x y : Int32} {G : sx_G} (hx : x = nI i) (hy : y = nI 3) (hi : i < 3) (hk : K none I G) : sx_C 221 (d + 2) [.int x, .int y] I G K := by
  subst hx; subst hy
  refine sx_enter (by decide +kernel) (Nat.le_of_ble_eq_true rfl) (sx_go m221 60 rfl (fun VV CC hV hC => ?_))
  refine hC _ _ _ _ _ (sx_enter (by decide +kernel) (Nat.le_of_ble_eq_true rfl) (sx_go m228 60 rfl (fun VV CC hV hC => ?_)))
  refine ⟨fun z => absurd ((nI_ltI (b := 0) (by omega) (by omega)).mp z) (by omega), fun _ => ⟨fun _ => hk, fun z => absurd (nI_lt hi (by decide)) z⟩⟩
theorem c_at_3 {i : Nat} {x : Int32} (hx : x = nI i) (hi : i < 3) (hk : K (some (.int (nI (gy_wb 3 i)))) I (sx_run rw m ln)) : sx_C 216 (d + 4) [.ref 3, .int x] I (sx_run rw m ln) K := by
  have ev : ∀ i, i < 3 → (((sx_rom (9) i) &&& nI 255).toUInt32 % 65536).toInt32 = nI (gy_wb 3 i) := by decide +kernel
  have en : ∀ i, i < 3 → sx_nrw 3 (nI (gy_wb 3 i)) := fun i hi => gy_nrc _ ((by decide : ∀ i, i < 3 → gy_wb 3 i < 128) i hi)
  have go : ∀ z : Int32, z = nI (gy_wb 3 i) → sx_nrw 3 z ∧ sx_nrw 3 z ∧ K (some (.int z)) I (sx_run rw m ln) := fun z e => ⟨e ▸ en i hi, e ▸ en i hi, e ▸ hk⟩
  refine sx_enter (by decide +kernel) (Nat.le_of_ble_eq_true rfl) (sx_go m216 60 rfl (fun VV CC hV hC => ?_))
  refine hC _ _ _ _ _ (c_latin_3 (d := d + 2) ⟨fun (z : nI 1 = 0) => absurd z (by decide), fun _ => ?_⟩)
  refine hC _ _ _ _ _ (sx_enter (by decide +kernel) (Nat.le_of_ble_eq_true rfl) (sx_go m222 60 rfl (fun VV CC hV hC => ?_)))
  refine hC _ _ _ _ _ (c_chk_3 (d := d) hx rfl hi ⟨i, ⟨hx, hi⟩, ?_⟩)
  exact go _ (ev i hi)
theorem v_word_3 {p : Nat} (hT : gy_b5 T n I) (hp : p + 3 ≤ n) (h1 : (∀ i, i < 3 → T (p + i) = gy_wb 3 i) → K (some (.int (nI 1))) I (sx_run rw m ln)) (h0 : ¬ (∀ i, i < 3 → T (p + i) = gy_wb 3 i) → K (some (.int (nI 0))) I (sx_run rw m ln)) :
    ∀ (r k : Nat), k + r = 3 → (∀ i, i < k → T (p + i) = gy_wb 3 i) → sx_V 38 (d + 5) 0 0 K 15 [(0, .ref 50), (1, .int (nI p)), (3, .ref 3), (4, .int (nI k))] [] I (sx_run rw m ln)
  | r, k, hkr, hs => by
    have hn := hT.1
    have wl : ∀ i, i < 3 → gy_wb 3 i < 128 := by decide
    refine sx_go m38 100 rfl (fun VV CC hV hC => ?_)
    refine hC _ _ _ _ _ (c_len_3 (d := d + 2) ⟨fun (c : nI 3 ≤ nI k) => ?_, fun (c : ¬ nI 3 ≤ nI k) => ?_⟩)
    · rw [nI_leI (by omega) (by omega)] at c
      exact ⟨Or.inr rfl, h1 (fun i hi => hs i (by omega))⟩
    · rw [nI_leI (by omega) (by omega)] at c
      obtain ⟨r', er⟩ : ∃ r', r = r' + 1 := ⟨r - 1, by omega⟩
      subst er
      obtain ⟨e1, l1⟩ := hT.2 (p + k) (by omega)
      have eq := gy_sb_eq (T (p + k)) l1 (gy_wb 3 k) (wl k (by omega))
      refine ⟨p + k, ⟨nI_add p k, by omega⟩, hC _ _ _ _ _ (c_at_3 (d := d) rfl (by omega) ⟨fun (z : I 50 (p + k) = nI (gy_wb 3 k)) => ?_, fun (z : ¬ I 50 (p + k) = nI (gy_wb 3 k)) => ⟨Or.inl rfl, h0 (fun y => z (e1.trans (eq.mpr (y k (by omega)))))⟩⟩)⟩
      have := v_word_3 hT hp h1 h0 r' (k + 1) (by omega) (fun i hi => by
        by_cases ek : i = k
        · rw [ek]; exact eq.mp (e1.symm.trans z)
        · exact hs i (by omega))
      rw [nI_succ] at this
      exact hV _ _ _ _ _ _ _ this
theorem c_word_3 {p q : Nat} {x y : Int32} (hx : x = nI p) (hy : y = nI q) (hT : gy_b5 T n I) (hpq : p ≤ q) (hq : q ≤ n) (h1 : q - p = 3 → (∀ i, i < 3 → T (p + i) = gy_wb 3 i) → K (some (.int (nI 1))) I (sx_run rw m ln)) (h0 : ¬ (q - p = 3 ∧ ∀ i, i < 3 → T (p + i) = gy_wb 3 i) → K (some (.int (nI 0))) I (sx_run rw m ln)) : sx_C 38 (d + 5) [.ref 50, .int x, .int y, .ref 3] I (sx_run rw m ln) K := by
  subst hx; subst hy
  have hn := hT.1
  have es : nI q - nI p = nI (q - p) := pk_sub hpq
  refine sx_enter (by decide +kernel) (Nat.le_of_ble_eq_true rfl) (sx_go m38 100 rfl (fun VV CC hV hC => ?_))
  refine hC _ _ _ _ _ (c_len_3 (d := d + 2) ⟨fun (c : nI q - nI p = nI 3) => ?_, fun (c : ¬ nI q - nI p = nI 3) => ⟨Or.inl rfl, h0 (fun z => c (by rw [es, z.1]))⟩⟩)
  rw [es, nI_eq (by omega) (by omega)] at c
  exact hV _ _ _ _ _ _ _ (v_word_3 hT (by omega) (h1 c) (fun z => h0 (fun y => z y.2)) 3 0 (by omega) (fun i hi => absurd hi (Nat.not_lt_zero i)))
theorem c_coder_4 (hk : K (some (.int (nI 0))) I (sx_run rw m ln)) : sx_C 219 (d + 1) [.ref 4] I (sx_run rw m ln) K := by
  refine sx_enter (by decide +kernel) (Nat.le_of_ble_eq_true rfl) (sx_go m219 60 rfl (fun VV CC hV hC => ?_))
  refine ⟨fun (z : nI 1 = 0) => absurd z (by decide), fun _ => ?_⟩
  exact ⟨rfl, hk⟩
theorem c_latin_4 (hk : K (some (.int (nI 1))) I (sx_run rw m ln)) : sx_C 220 (d + 1) [.ref 4] I (sx_run rw m ln) K := by
  refine sx_enter (by decide +kernel) (Nat.le_of_ble_eq_true rfl) (sx_go m220 60 rfl (fun VV CC hV hC => ?_))
  refine ⟨fun (z : nI 1 = 0) => absurd z (by decide), fun _ => ⟨fun z => absurd rfl z, fun _ => ⟨Or.inr rfl, hk⟩⟩⟩
theorem c_len_4 (hk : K (some (.int (nI 4))) I (sx_run rw m ln)) : sx_C 215 (d + 2) [.ref 4] I (sx_run rw m ln) K := by
  refine sx_enter (by decide +kernel) (Nat.le_of_ble_eq_true rfl) (sx_go m215 60 rfl (fun VV CC hV hC => ?_))
  exact hC _ _ _ _ _ (c_coder_4 (sx_kk (by decide +kernel) hk))
theorem c_chk_4 {i : Nat} {x y : Int32} {G : sx_G} (hx : x = nI i) (hy : y = nI 4) (hi : i < 4) (hk : K none I G) : sx_C 221 (d + 2) [.int x, .int y] I G K := by
  subst hx; subst hy
  refine sx_enter (by decide +kernel) (Nat.le_of_ble_eq_true rfl) (sx_go m221 60 rfl (fun VV CC hV hC => ?_))
  refine hC _ _ _ _ _ (sx_enter (by decide +kernel) (Nat.le_of_ble_eq_true rfl) (sx_go m228 60 rfl (fun VV CC hV hC => ?_)))
  refine ⟨fun z => absurd ((nI_ltI (b := 0) (by omega) (by omega)).mp z) (by omega), fun _ => ⟨fun _ => hk, fun z => absurd (nI_lt hi (by decide)) z⟩⟩
theorem c_at_4 {i : Nat} {x : Int32} (hx : x = nI i) (hi : i < 4) (hk : K (some (.int (nI (gy_wb 4 i)))) I (sx_run rw m ln)) : sx_C 216 (d + 4) [.ref 4, .int x] I (sx_run rw m ln) K := by
  have ev : ∀ i, i < 4 → (((sx_rom (10) i) &&& nI 255).toUInt32 % 65536).toInt32 = nI (gy_wb 4 i) := by decide +kernel
  have en : ∀ i, i < 4 → sx_nrw 3 (nI (gy_wb 4 i)) := fun i hi => gy_nrc _ ((by decide : ∀ i, i < 4 → gy_wb 4 i < 128) i hi)
  have go : ∀ z : Int32, z = nI (gy_wb 4 i) → sx_nrw 3 z ∧ sx_nrw 3 z ∧ K (some (.int z)) I (sx_run rw m ln) := fun z e => ⟨e ▸ en i hi, e ▸ en i hi, e ▸ hk⟩
  refine sx_enter (by decide +kernel) (Nat.le_of_ble_eq_true rfl) (sx_go m216 60 rfl (fun VV CC hV hC => ?_))
  refine hC _ _ _ _ _ (c_latin_4 (d := d + 2) ⟨fun (z : nI 1 = 0) => absurd z (by decide), fun _ => ?_⟩)
  refine hC _ _ _ _ _ (sx_enter (by decide +kernel) (Nat.le_of_ble_eq_true rfl) (sx_go m222 60 rfl (fun VV CC hV hC => ?_)))
  refine hC _ _ _ _ _ (c_chk_4 (d := d) hx rfl hi ⟨i, ⟨hx, hi⟩, ?_⟩)
  exact go _ (ev i hi)
theorem v_word_4 {p : Nat} (hT : gy_b5 T n I) (hp : p + 4 ≤ n) (h1 : (∀ i, i < 4 → T (p + i) = gy_wb 4 i) → K (some (.int (nI 1))) I (sx_run rw m ln)) (h0 : ¬ (∀ i, i < 4 → T (p + i) = gy_wb 4 i) → K (some (.int (nI 0))) I (sx_run rw m ln)) :
    ∀ (r k : Nat), k + r = 4 → (∀ i, i < k → T (p + i) = gy_wb 4 i) → sx_V 38 (d + 5) 0 0 K 15 [(0, .ref 50), (1, .int (nI p)), (3, .ref 4), (4, .int (nI k))] [] I (sx_run rw m ln)
  | r, k, hkr, hs => by
    have hn := hT.1
    have wl : ∀ i, i < 4 → gy_wb 4 i < 128 := by decide
    refine sx_go m38 100 rfl (fun VV CC hV hC => ?_)
    refine hC _ _ _ _ _ (c_len_4 (d := d + 2) ⟨fun (c : nI 4 ≤ nI k) => ?_, fun (c : ¬ nI 4 ≤ nI k) => ?_⟩)
    · rw [nI_leI (by omega) (by omega)] at c
      exact ⟨Or.inr rfl, h1 (fun i hi => hs i (by omega))⟩
    · rw [nI_leI (by omega) (by omega)] at c
      obtain ⟨r', er⟩ : ∃ r', r = r' + 1 := ⟨r - 1, by omega⟩
      subst er
      obtain ⟨e1, l1⟩ := hT.2 (p + k) (by omega)
      have eq := gy_sb_eq (T (p + k)) l1 (gy_wb 4 k) (wl k (by omega))
      refine ⟨p + k, ⟨nI_add p k, by omega⟩, hC _ _ _ _ _ (c_at_4 (d := d) rfl (by omega) ⟨fun (z : I 50 (p + k) = nI (gy_wb 4 k)) => ?_, fun (z : ¬ I 50 (p + k) = nI (gy_wb 4 k)) => ⟨Or.inl rfl, h0 (fun y => z (e1.trans (eq.mpr (y k (by omega)))))⟩⟩)⟩
      have := v_word_4 hT hp h1 h0 r' (k + 1) (by omega) (fun i hi => by
        by_cases ek : i = k
        · rw [ek]; exact eq.mp (e1.symm.trans z)
        · exact hs i (by omega))
      rw [nI_succ] at this
      exact hV _ _ _ _ _ _ _ this
theorem c_word_4 {p q : Nat} {x y : Int32} (hx : x = nI p) (hy : y = nI q) (hT : gy_b5 T n I) (hpq : p ≤ q) (hq : q ≤ n) (h1 : q - p = 4 → (∀ i, i < 4 → T (p + i) = gy_wb 4 i) → K (some (.int (nI 1))) I (sx_run rw m ln)) (h0 : ¬ (q - p = 4 ∧ ∀ i, i < 4 → T (p + i) = gy_wb 4 i) → K (some (.int (nI 0))) I (sx_run rw m ln)) : sx_C 38 (d + 5) [.ref 50, .int x, .int y, .ref 4] I (sx_run rw m ln) K := by
  subst hx; subst hy
  have hn := hT.1
  have es : nI q - nI p = nI (q - p) := pk_sub hpq
  refine sx_enter (by decide +kernel) (Nat.le_of_ble_eq_true rfl) (sx_go m38 100 rfl (fun VV CC hV hC => ?_))
  refine hC _ _ _ _ _ (c_len_4 (d := d + 2) ⟨fun (c : nI q - nI p = nI 4) => ?_, fun (c : ¬ nI q - nI p = nI 4) => ⟨Or.inl rfl, h0 (fun z => c (by rw [es, z.1]))⟩⟩)
  rw [es, nI_eq (by omega) (by omega)] at c
  exact hV _ _ _ _ _ _ _ (v_word_4 hT (by omega) (h1 c) (fun z => h0 (fun y => z y.2)) 4 0 (by omega) (fun i hi => absurd hi (Nat.not_lt_zero i)))
theorem c1_keyOf {p q : Nat} {x y : Int32} (hx : x = nI p) (hy : y = nI q) (hT : gy_b5 T n I) (hpq : p ≤ q) (hq : q ≤ n) (hk : K (some (.int (if gy_key T p q = -1 then -1000000005 else gy_key T p q))) I (sx_run rw m ln)) : sx_C 37 (d + 6) [.ref 50, .int x, .int y] I (sx_run rw m ln) K := by
  have lk : gy_look T p q = true ↔ _ := decide_eq_true_iff
  have fe : gy_fee T p q = true ↔ _ := decide_eq_true_iff
  have fi : gy_fine T p q = true ↔ _ := decide_eq_true_iff
  have a4 : ∀ (P : Nat → Prop), P 0 → P 1 → P 2 → P 3 → ∀ i, i < 4 → P i := by
    intro P h0 h1 h2 h3 i hi
    have : i = 0 ∨ i = 1 ∨ i = 2 ∨ i = 3 := by omega
    rcases this with e | e | e | e <;> subst e <;> assumption
  have a3 : ∀ (P : Nat → Prop), P 0 → P 1 → P 2 → ∀ i, i < 3 → P i := by
    intro P h0 h1 h2 i hi
    have : i = 0 ∨ i = 1 ∨ i = 2 := by omega
    rcases this with e | e | e <;> subst e <;> assumption
  refine sx_enter (by decide +kernel) (Nat.le_of_ble_eq_true rfl) (sx_go m37 100 rfl (fun VV CC hV hC => ?_))
  refine hC _ _ _ _ _ (c_word_2 (d := d) hx hy hT hpq hq (fun g1 g2 => ?_) (fun g => ?_))
  · have e : gy_key T p q = 0 := if_pos (lk.mpr ⟨g1, g2 0 (by decide), g2 1 (by decide), g2 2 (by decide), g2 3 (by decide)⟩)
    rw [e, if_neg (by decide)] at hk
    exact ⟨fun (z : nI 1 = 0) => absurd z (by decide), fun _ => hk⟩
  · have nl : ¬ gy_look T p q = true := fun z => g ⟨(lk.mp z).1, a4 _ (lk.mp z).2.1 (lk.mp z).2.2.1 (lk.mp z).2.2.2.1 (lk.mp z).2.2.2.2⟩
    refine ⟨fun _ => ?_, fun z => absurd rfl z⟩
    refine hC _ _ _ _ _ (c_word_3 (d := d) hx hy hT hpq hq (fun g1 g2 => ?_) (fun g => ?_))
    · have e : gy_key T p q = nI 1 := (if_neg nl).trans (if_pos (fe.mpr ⟨g1, g2 0 (by decide), g2 1 (by decide), g2 2 (by decide)⟩))
      rw [e, if_neg (by decide)] at hk
      exact ⟨fun (z : nI 1 = 0) => absurd z (by decide), fun _ => hk⟩
    · have nf : ¬ gy_fee T p q = true := fun z => g ⟨(fe.mp z).1, a3 _ (fe.mp z).2.1 (fe.mp z).2.2.1 (fe.mp z).2.2.2⟩
      refine ⟨fun _ => ?_, fun z => absurd rfl z⟩
      refine hC _ _ _ _ _ (c_word_4 (d := d) hx hy hT hpq hq (fun g1 g2 => ?_) (fun g => ?_))
      · have e : gy_key T p q = nI 2 := (if_neg nl).trans ((if_neg nf).trans (if_pos (fi.mpr ⟨g1, g2 0 (by decide), g2 1 (by decide), g2 2 (by decide), g2 3 (by decide)⟩)))
        rw [e, if_neg (by decide)] at hk
        exact ⟨fun (z : nI 1 = 0) => absurd z (by decide), fun _ => hk⟩
      · have nn : ¬ gy_fine T p q = true := fun z => g ⟨(fi.mp z).1, a4 _ (fi.mp z).2.1 (fi.mp z).2.2.1 (fi.mp z).2.2.2.1 (fi.mp z).2.2.2.2⟩
        have e : gy_key T p q = -1 := (if_neg nl).trans ((if_neg nf).trans (if_neg nn))
        rw [e, if_pos rfl] at hk
        exact ⟨fun _ => hk, fun z => absurd rfl z⟩
end
