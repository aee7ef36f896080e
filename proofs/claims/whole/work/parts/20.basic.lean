/-! ===== the graph of the made system; small facts ===== -/
def sx_SRrow (a : Nat) : List (Option Nat) := bif Nat.ble a 55 then (bif Nat.ble a 35 then (bif Nat.ble a 25 then (bif Nat.ble a 20 then (bif Nat.ble a 17 then (bif Nat.ble a 16 then (bif Nat.ble a 15 then ([some 16, some 19, some 28, some 37, none, some 46, some 50, none, some 51, some 52, some 53, none, some 54]) else ([some 17, some 18])) else ([])) else (bif Nat.ble a 19 then (bif Nat.ble a 18 then ([]) else ([some 16, none, some 20, some 21, some 22, some 23, some 24, some 25, some 26, none, none, none, some 27])) else ([]))) else ([])) else (bif Nat.ble a 30 then (bif Nat.ble a 28 then (bif Nat.ble a 27 then ([]) else ([some 16, none, some 29, some 30, some 31, some 32, some 33, some 34, some 35, none, none, none, some 36])) else ([])) else ([]))) else (bif Nat.ble a 45 then (bif Nat.ble a 40 then (bif Nat.ble a 38 then (bif Nat.ble a 37 then (bif Nat.ble a 36 then ([]) else ([some 16, none, some 38, some 39, some 40, some 41, some 42, some 43, some 44, none, none, none, some 45])) else ([])) else ([])) else ([])) else (bif Nat.ble a 50 then (bif Nat.ble a 48 then (bif Nat.ble a 47 then (bif Nat.ble a 46 then ([none, none, some 47, none, some 48, none, none, none, none, some 49]) else ([])) else ([])) else ([])) else (bif Nat.ble a 53 then (bif Nat.ble a 52 then (bif Nat.ble a 51 then ([some 55, some 57, some 59, some 61]) else ([some 63, some 66, some 69, some 72, some 75])) else ([])) else (bif Nat.ble a 54 then ([]) else ([none, none, some 56])))))) else (bif Nat.ble a 76 then (bif Nat.ble a 66 then (bif Nat.ble a 61 then (bif Nat.ble a 58 then (bif Nat.ble a 57 then (bif Nat.ble a 56 then ([]) else ([none, none, some 58])) else ([])) else (bif Nat.ble a 60 then (bif Nat.ble a 59 then ([none, none, some 60]) else ([])) else ([none, none, some 62]))) else (bif Nat.ble a 64 then (bif Nat.ble a 63 then (bif Nat.ble a 62 then ([]) else ([none, none, none, none, some 64])) else ([none, none, some 65])) else (bif Nat.ble a 65 then ([]) else ([none, none, none, none, some 67])))) else (bif Nat.ble a 71 then (bif Nat.ble a 69 then (bif Nat.ble a 68 then (bif Nat.ble a 67 then ([none, none, some 68]) else ([])) else ([none, none, none, none, some 70])) else (bif Nat.ble a 70 then ([none, none, some 71]) else ([]))) else (bif Nat.ble a 74 then (bif Nat.ble a 73 then (bif Nat.ble a 72 then ([none, none, none, none, some 73]) else ([none, none, some 74])) else ([])) else (bif Nat.ble a 75 then ([none, none, none, none, some 76]) else ([none, none, some 77]))))) else (bif Nat.ble a 86 then (bif Nat.ble a 81 then (bif Nat.ble a 79 then (bif Nat.ble a 78 then (bif Nat.ble a 77 then ([]) else ([some 79, some 80, some 81, none, some 82, some 83, some 84, some 85, some 86, some 87, some 88, some 89, some 90, some 91, none, none, none, none, none, none, none, none, none, none, none, some 92, some 93, some 94, some 95, none, some 96])) else ([])) else ([])) else ([])) else ([])))
/-- the references: fixed below 97 but the book's rows; a text's code stands right behind it -/
def sx_mkR (rw : Nat → Option Nat) (a k : Nat) : Option Nat := bif Nat.ble a 96 then (bif Nat.beq a 17 then rw k else (sx_SRrow a).getD k none) else (bif Nat.beq k 2 then some (a + 1) else none)
def sx_run (rw : Nat → Option Nat) (m : Nat) (ln : Nat → Nat) : sx_G := (sx_mkR rw, .inr m, ln)
theorem sx_nIadd (a b : Nat) : nI a + nI b = nI (a + b) := nI_add a b
theorem sx_bool (c : Prop) [Decidable c] : (if c then nI 1 else nI 0) = 0 ∨ (if c then nI 1 else nI 0) = 1 := by
  by_cases h : c
  · rw [if_pos h]; exact Or.inr rfl
  · rw [if_neg h]; exact Or.inl rfl
/-- isWithin(v, least, most) -/
def gs_in (v a b : Int32) : Int32 := if a ≤ v ∧ v ≤ b then nI 1 else nI 0
theorem gs_in01 (v a b : Int32) : gs_in v a b = 0 ∨ gs_in v a b = 1 := sx_bool _
theorem c_isWithin {d : Nat} {v a b : Int32} {I : sx_I} {G : sx_G} {K : sx_K} (hk : K (some (.int (gs_in v a b))) I G) : sx_C 106 (d + 1) [.int v, .int a, .int b] I G K := by
  refine sx_enter (by decide +kernel) (Nat.le_of_ble_eq_true rfl) (sx_go m106 40 rfl (fun VV CC hV hC => ?_))
  refine ⟨fun (c1 : v < a) => ⟨Or.inl rfl, ?_⟩, fun (c1 : ¬ v < a) => ⟨fun (c2 : b < v) => ⟨Or.inl rfl, ?_⟩, fun (c2 : ¬ b < v) => ⟨Or.inr rfl, ?_⟩⟩⟩
  · have : gs_in v a b = nI 0 := if_neg (fun h => absurd h.1 (Int32.not_le.mpr c1))
    rw [this] at hk; exact hk
  · have : gs_in v a b = nI 0 := if_neg (fun h => absurd h.2 (Int32.not_le.mpr c2))
    rw [this] at hk; exact hk
  · have : gs_in v a b = nI 1 := if_pos ⟨Int32.not_lt.mp c1, Int32.not_lt.mp c2⟩
    rw [this] at hk; exact hk
/-- the reference's of(guard, what) -/
theorem c_of {d : Nat} {k w : Nat} {x y : Int32} {I : sx_I} {rw : Nat → Option Nat} {m : Nat} {ln : Nat → Nat} {K : sx_K} (hx : x = nI k) (hy : y = nI w) (hkw : 12 + 5 * k + w < 3062) (hk : K (some (.int (I 79 (12 + 5 * k + w)))) I (sx_run rw m ln)) : sx_C 119 (d + 1) [.ref 78, .int x, .int y] I (sx_run rw m ln) K := by
  refine sx_enter (by decide +kernel) (Nat.le_of_ble_eq_true rfl) (sx_go m119 40 rfl (fun VV CC hV hC => ?_))
  subst hx; subst hy
  exact ⟨12 + 5 * k + w, ⟨by simp only [pk_mul, nI_add], hkw⟩, hk⟩
