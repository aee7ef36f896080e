/-! ===== the class: its words ===== -/
def gy_wb (B i : Nat) : Nat := ((([[108, 111, 111, 107], [102, 101, 101], [102, 105, 110, 101], [119, 100, 112], [104, 108], [119, 100]] : List (List Nat)).getD (B - 2) []).getD i 0)
def gy_wl (B : Nat) : Nat := (([[108, 111, 111, 107], [102, 101, 101], [102, 105, 110, 101], [119, 100, 112], [104, 108], [119, 100]] : List (List Nat)).getD (B - 2) []).length
def gy_str (I : sx_I) : Prop := ∀ B, 2 ≤ B → B < 8 → I B 0 = 0 ∧ ∀ i, i < gy_wl B → I (B + 6) i = nI (gy_wb B i)
section
variable {d m : Nat} {I I0 : sx_I} {rw : Nat → Option Nat} {ln : Nat → Nat} {K : sx_K} {T : Nat → Nat} {n w br bg : Nat} {S : List Nat} {o : List (Nat × Nat)} {due : Bool} {cmp : Nat → Int32} {key : Int32}
theorem c_coder_2 (hs : gy_str I) (hk : K (some (.int (nI 0))) I (sx_run rw m ln)) : sx_C 219 (d + 1) [.ref 2] I (sx_run rw m ln) K := by
  have e := (hs 2 (by decide) (by decide)).1
  refine sx_enter (by decide +kernel) (Nat.le_of_ble_eq_true rfl) (sx_go m219 60 rfl (fun VV CC hV hC => ?_))
  refine ⟨fun (z : nI 1 = 0) => absurd z (by decide), fun _ => ?_⟩
  exact ⟨by decide +kernel, hk⟩
theorem c_latin_2 (hs : gy_str I) (hk : K (some (.int (nI 1))) I (sx_run rw m ln)) : sx_C 220 (d + 1) [.ref 2] I (sx_run rw m ln) K := by
  have e := (hs 2 (by decide) (by decide)).1
  refine sx_enter (by decide +kernel) (Nat.le_of_ble_eq_true rfl) (sx_go m220 60 rfl (fun VV CC hV hC => ?_))
  refine ⟨fun (z : nI 1 = 0) => absurd z (by decide), fun _ => ⟨fun z => absurd rfl z, fun _ => ⟨Or.inr rfl, hk⟩⟩⟩
theorem c_len_2 (hs : gy_str I) (hk : K (some (.int (nI 4))) I (sx_run rw m ln)) : sx_C 215 (d + 2) [.ref 2] I (sx_run rw m ln) K := by
  refine sx_enter (by decide +kernel) (Nat.le_of_ble_eq_true rfl) (sx_go m215 60 rfl (fun VV CC hV hC => ?_))
  exact hC _ _ _ _ _ (c_coder_2 hs (sx_kk (by decide +kernel) hk))
theorem c_chk_2 {i : Nat} {x y : Int32} {G : sx_G} (hx : x = nI i) (hy : y = nI 4) (hi : i < 4) (hk : K none I G) : sx_C 221 (d + 2) [.int x, .int y] I G K := by
  subst hx; subst hy
  refine sx_enter (by decide +kernel) (Nat.le_of_ble_eq_true rfl) (sx_go m221 60 rfl (fun VV CC hV hC => ?_))
  refine hC _ _ _ _ _ (sx_enter (by decide +kernel) (Nat.le_of_ble_eq_true rfl) (sx_go m228 60 rfl (fun VV CC hV hC => ?_)))
  refine ⟨fun z => absurd ((nI_ltI (b := 0) (by omega) (by omega)).mp z) (by omega), fun _ => ⟨fun _ => hk, fun z => absurd (nI_lt hi (by decide)) z⟩⟩
theorem c_at_2 {i : Nat} {x : Int32} (hs : gy_str I) (hx : x = nI i) (hi : i < 4) (hk : K (some (.int (nI (gy_wb 2 i)))) I (sx_run rw m ln)) : sx_C 216 (d + 4) [.ref 2, .int x] I (sx_run rw m ln) K := by
  have e := (hs 2 (by decide) (by decide)).2 i hi
  have ev : ∀ i, i < 4 → (((nI (gy_wb 2 i)) &&& nI 255).toUInt32.toUInt16.toUInt32.toInt32) = nI (gy_wb 2 i) := by decide +kernel
  refine sx_enter (by decide +kernel) (Nat.le_of_ble_eq_true rfl) (sx_go m216 60 rfl (fun VV CC hV hC => ?_))
  refine hC _ _ _ _ _ (c_latin_2 (d := d + 2) hs ⟨fun (z : nI 1 = 0) => absurd z (by decide), fun _ => ?_⟩)
  refine hC _ _ _ _ _ (sx_enter (by decide +kernel) (Nat.le_of_ble_eq_true rfl) (sx_go m222 60 rfl (fun VV CC hV hC => ?_)))
  refine hC _ _ _ _ _ (c_chk_2 (d := d) hx rfl hi ⟨i, ⟨hx, hi⟩, ?_⟩)
  exact hk
end
