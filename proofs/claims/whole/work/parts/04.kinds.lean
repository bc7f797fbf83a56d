/-! part 04: the simple kinds -/
/-- cells for passing use are 0 -/
def tc_Cl (t : Nat → Fin 16) : Prop := (∀ j, 6 ≤ j → j ≤ 12 → t j = 0) ∧ (∀ j, 18 ≤ j → j < 84 → j % 4 ≠ 1 → t j = 0)
theorem tc_sp_if {c : Nat} {a : tc_Fr} {nb b p n : Nat} {t t' : Nat → Fin 16} {w w' : tc_Out} (hc : b + c < 128) (h : t (b + c) ≠ 0 → tc_Sp a nb b c t w b t' w') (h1 : t (b + c) ≠ 0 → t' (b + c) = 0) (h0 : t (b + c) = 0 → t = t' ∧ w = w') (hn : nb + 4 ≤ n) : tc_Sp (tc_loop false c a) n b p t w b t' w' := by
  by_cases z : t (b + c) = 0
  · obtain ⟨et, ew⟩ := h0 z
    subst et ew
    exact tc_sp_for' (nb := nb) 0 (fun _ => b) (fun _ => t) (fun _ => w) (fun _ _ => hc) z (fun j hj => absurd hj (Nat.not_lt_zero j)) (fun j hj => absurd hj (Nat.not_lt_zero j)) rfl rfl rfl rfl rfl rfl (by omega)
  · refine tc_sp_for' (nb := nb) 1 (fun _ => b) (fun j => if j = 0 then t' else t) (fun j => if j = 0 then w' else w) (fun _ _ => hc) (h1 z) ?_ ?_ rfl rfl rfl rfl rfl rfl (by omega)
    · intro j hj
      exact z
    · intro j hj
      have : j = 0 := by omega
      subst this
      exact h z
theorem tc_sp_set {lv : Bool} {x p : Nat} {y : Int32} {t : Nat → Fin 16} {w : tc_Out} (hx : x < 6) : tc_Sp (tc_seq (tc_clear lv x) (tc_tok (1, x, y))) 1000 0 p t w 0 (tc_up t x (tc_toV y)) w := by
  refine tc_sp_le (tc_sp_cast (tc_sp_seq (tc_sp_clear (by omega)) (tc_sp_add (by omega))) ?_) (by omega)
  funext i
  simp only [tc_up, Nat.zero_add]
  grind
theorem tc_sp_copy {lv : Bool} {x y p : Nat} {t : Nat → Fin 16} {w : tc_Out} (C : tc_Cl t) (hx : x < 6) (hy : y < 6) : tc_Sp (tc_seq (tc_addTo lv y 7) (tc_seq (tc_clear lv x) (tc_pour lv 7 x 1))) 1000 0 p t w 0 (tc_up t x (t y)) w := by
  have z6 := C.1 6 (by omega) (by omega)
  have z7 := C.1 7 (by omega) (by omega)
  refine tc_sp_le (tc_sp_cast (tc_sp_seq (tc_sp_addTo (by omega) (by omega) (by omega) (by omega) (by omega) z6) (tc_sp_seq (tc_sp_clear (by omega)) (tc_sp_pour (by omega) (by omega) (by omega)))) ?_) (by omega)
  funext i
  simp only [tc_up, Nat.zero_add, tc_p1]
  grind
theorem tc_sp_plus {lv : Bool} {x y p : Nat} {n : Int32} {t : Nat → Fin 16} {w : tc_Out} (C : tc_Cl t) (hx : x < 6) (hy : y < 6) : tc_Sp (tc_seq (tc_addTo lv y 7) (tc_pour lv 7 x n)) 1000 0 p t w 0 (tc_up t x (t x + tc_toV n * t y)) w := by
  have z6 := C.1 6 (by omega) (by omega)
  have z7 := C.1 7 (by omega) (by omega)
  refine tc_sp_le (tc_sp_cast (tc_sp_seq (tc_sp_addTo (by omega) (by omega) (by omega) (by omega) (by omega) z6) (tc_sp_pour (by omega) (by omega) (by omega))) ?_) (by omega)
  funext i
  simp only [tc_up, Nat.zero_add]
  grind
def tc_product (lv : Bool) (x y z : Nat) : tc_Fr :=
  tc_seq (tc_addTo lv y 7) (tc_seq (tc_addTo lv z 8) (tc_seq (tc_clear lv x) (tc_seq (tc_loop false 7 (tc_seq (tc_tok (1, 7, -1)) (tc_addTo lv 8 x))) (tc_clear lv 8))))
theorem tc_sp_product {lv : Bool} {x y z p : Nat} {t : Nat → Fin 16} {w : tc_Out} (C : tc_Cl t) (hx : x < 6) (hy : y < 6) (hz : z < 6) : tc_Sp (tc_product lv x y z) 10000 0 p t w 0 (tc_up t x (t y * t z)) w := by
  have z6 := C.1 6 (by omega) (by omega)
  have z7 := C.1 7 (by omega) (by omega)
  have z8 := C.1 8 (by omega) (by omega)
  have hv := (t y).isLt
  refine tc_sp_le (tc_sp_cast (tc_sp_seq (tc_sp_addTo (by omega) (by omega) (by omega) (by omega) (by omega) z6) (tc_sp_seq (tc_sp_addTo (by omega) (by omega) (by omega) (by omega) (by omega) ?_) (tc_sp_seq (tc_sp_clear (by omega)) (tc_sp_seq (n1 := 4000) (t1 := tc_up (tc_up t 8 (t z)) x (t y * t z)) (b1 := 0) (w1 := w) ?_ (tc_sp_clear (by omega)))))) ?_) (by omega)
  · simp only [tc_up]
    grind
  · refine tc_sp_for' (nb := 2 + 230) (t y).val (fun _ => 0) (fun j => tc_up (tc_up (tc_up t 8 (t z)) x ((t y - tc_f j) * t z)) 7 (tc_f j)) (fun _ => w) (by omega) ?_ ?_ ?_ rfl ?_ rfl rfl ?_ rfl (by omega)
    · simp only [tc_up, tc_f0]
      grind
    · intro j hj
      have := tc_fn (j := j) (by omega)
      simp only [tc_up]
      grind
    · intro j hj
      refine tc_sp_cast (tc_sp_seq (tc_sp_add (by omega)) (tc_sp_addTo (by omega) (by omega) (by omega) (by omega) (by omega) ?_)) ?_
      · simp only [tc_up]
        grind
      · funext i
        simp only [tc_up, tc_fs, tc_m1]
        grind
    · funext i
      simp only [tc_up, tc_fv, Nat.zero_add]
      grind
    · funext i
      simp only [tc_up, tc_f0, Nat.zero_add]
      grind
  · funext i
    simp only [tc_up, Nat.zero_add]
    grind
def tc_less (lv : Bool) (x y z : Nat) : tc_Fr :=
  tc_seq (tc_addTo lv y 7) (tc_seq (tc_addTo lv z 8) (tc_seq (tc_loop false 7 (tc_seq (tc_tok (1, 7, -1)) (tc_seq (tc_addTo lv 8 10) (tc_loop false 10 (tc_seq (tc_tok (1, 8, -1)) (tc_clear lv 10)))))) (tc_seq (tc_clear lv x) (tc_loop false 8 (tc_seq (tc_tok (1, x, 1)) (tc_clear lv 8))))))
theorem tc_fp {a : Nat} (h : a < 16) : tc_f (a - 1) = if tc_f a = 0 then tc_f a else tc_f a + 15 := by
  cases a with
  | zero => rfl
  | succ a =>
    rw [if_neg (tc_fn (by omega)), tc_fs, tc_r2]
    rfl
theorem tc_less_v (a b : Fin 16) : (if tc_f (b.val - a.val) = 0 then (0 : Fin 16) else 1) = if a < b then 1 else 0 := by revert a b; decide
theorem tc_sp_less {lv : Bool} {x y z p : Nat} {t : Nat → Fin 16} {w : tc_Out} (C : tc_Cl t) (hx : x < 6) (hy : y < 6) (hz : z < 6) : tc_Sp (tc_less lv x y z) 10000 0 p t w 0 (tc_up t x (if t y < t z then 1 else 0)) w := by
  have z6 := C.1 6 (by omega) (by omega)
  have z7 := C.1 7 (by omega) (by omega)
  have z8 := C.1 8 (by omega) (by omega)
  have z10 := C.1 10 (by omega) (by omega)
  have hv := (t y).isLt
  have hv2 := (t z).isLt
  rw [← tc_less_v]
  refine tc_sp_le (tc_sp_seq (tc_sp_addTo (by omega) (by omega) (by omega) (by omega) (by omega) z6) (tc_sp_seq (tc_sp_addTo (by omega) (by omega) (by omega) (by omega) (by omega) ?_) (tc_sp_seq (n1 := 6000) (t1 := tc_up t 8 (tc_f ((t z).val - (t y).val))) (b1 := 0) (w1 := w) ?_ (tc_sp_seq (tc_sp_clear (by omega)) (tc_sp_if (nb := 2 + 64) (n := 100) (by omega) ?_ ?_ ?_ (by omega)))))) (by omega)
  · simp only [tc_up]
    grind
  · refine tc_sp_for' (nb := 2 + (230 + 100)) (t y).val (fun _ => 0) (fun j => tc_up (tc_up t 8 (tc_f ((t z).val - ((t y).val - j)))) 7 (tc_f j)) (fun _ => w) (by omega) ?_ ?_ ?_ rfl ?_ rfl rfl ?_ rfl (by omega)
    · simp only [tc_up, tc_f0]
      grind
    · intro j hj
      have := tc_fn (j := j) (by omega)
      simp only [tc_up]
      grind
    · intro j hj
      have hf := tc_fp (a := (t z).val - ((t y).val - (j + 1))) (by omega)
      rw [show (t z).val - ((t y).val - (j + 1)) - 1 = (t z).val - ((t y).val - j) from by omega] at hf
      show tc_Sp _ _ _ _ (tc_up (tc_up t 8 (tc_f ((t z).val - ((t y).val - (j + 1))))) 7 (tc_f (j + 1))) w 0 (tc_up (tc_up t 8 (tc_f ((t z).val - ((t y).val - j)))) 7 (tc_f j)) w
      rw [hf]
      generalize tc_f ((t z).val - ((t y).val - (j + 1))) = r
      refine tc_sp_seq (tc_sp_add (by omega)) (tc_sp_seq (tc_sp_addTo (by omega) (by omega) (by omega) (by omega) (by omega) ?_) (tc_sp_if (nb := 2 + 64) (by omega) (fun h => tc_sp_cast (tc_sp_seq (tc_sp_add (by omega)) (tc_sp_clear (by omega))) ?_) ?_ ?_ (by omega)))
      · simp only [tc_up]
        grind
      · simp only [tc_up, Nat.zero_add] at h
        funext i
        simp only [tc_up, tc_fs, tc_m1, Nat.zero_add]
        grind
      · intro _
        simp only [tc_up]
        grind
      · intro h
        refine ⟨?_, rfl⟩
        simp only [tc_up, Nat.zero_add] at h
        funext i
        simp only [tc_up, tc_fs, tc_m1, Nat.zero_add]
        grind
    · funext i
      simp only [tc_up, tc_fv, Nat.zero_add, Nat.sub_self, Nat.sub_zero]
      grind
    · funext i
      simp only [tc_up, tc_f0, Nat.zero_add, Nat.sub_zero]
      grind
  · intro h
    refine tc_sp_cast (tc_sp_seq (tc_sp_add (by omega)) (tc_sp_clear (by omega))) ?_
    generalize tc_f ((t z).val - (t y).val) = r at *
    simp only [tc_up, Nat.zero_add] at h
    funext i
    simp only [tc_up, tc_p1, Nat.zero_add]
    grind
  · intro _
    simp only [tc_up]
    grind
  · intro h
    refine ⟨?_, rfl⟩
    generalize tc_f ((t z).val - (t y).val) = r at *
    simp only [tc_up, Nat.zero_add] at h
    funext i
    simp only [tc_up, Nat.zero_add]
    grind
def tc_equal (lv : Bool) (x y z : Nat) : tc_Fr :=
  tc_seq (tc_addTo lv y 7) (tc_seq (tc_addTo lv z 8) (tc_seq (tc_pour lv 8 7 (-1)) (tc_seq (tc_clear lv x) (tc_seq (tc_tok (1, x, 1)) (tc_loop false 7 (tc_seq (tc_tok (1, x, -1)) (tc_clear lv 7)))))))
theorem tc_eq_v (a b : Fin 16) : a + 15 * b = 0 ↔ a = b := by revert a b; decide
theorem tc_sp_equal {lv : Bool} {x y z p : Nat} {t : Nat → Fin 16} {w : tc_Out} (C : tc_Cl t) (hx : x < 6) (hy : y < 6) (hz : z < 6) : tc_Sp (tc_equal lv x y z) 10000 0 p t w 0 (tc_up t x (if t y = t z then 1 else 0)) w := by
  have z6 := C.1 6 (by omega) (by omega)
  have z7 := C.1 7 (by omega) (by omega)
  have z8 := C.1 8 (by omega) (by omega)
  have e := tc_eq_v (t y) (t z)
  refine tc_sp_le (tc_sp_seq (tc_sp_addTo (by omega) (by omega) (by omega) (by omega) (by omega) z6) (tc_sp_seq (tc_sp_addTo (by omega) (by omega) (by omega) (by omega) (by omega) ?_) (tc_sp_seq (tc_sp_pour (by omega) (by omega) (by omega)) (tc_sp_seq (t1 := tc_up (tc_up t 7 (t y + 15 * t z)) x 0) (b1 := 0) (w1 := w) (tc_sp_cast (tc_sp_clear (by omega)) ?_) (tc_sp_seq (tc_sp_add (by omega)) (tc_sp_if (nb := 2 + 64) (n := 100) (by omega) (fun h => tc_sp_cast (tc_sp_seq (tc_sp_add (by omega)) (tc_sp_clear (by omega))) ?_) ?_ ?_ (by omega))))))) (by omega)
  · simp only [tc_up]
    grind
  · funext i
    simp only [tc_up, tc_m1, Nat.zero_add]
    grind
  · simp only [tc_up, Nat.zero_add] at h
    funext i
    simp only [tc_up, tc_m1, tc_p1, Nat.zero_add]
    grind
  · intro _
    simp only [tc_up]
    grind
  · intro h
    refine ⟨?_, rfl⟩
    simp only [tc_up, Nat.zero_add] at h
    funext i
    simp only [tc_up, tc_p1, Nat.zero_add]
    grind
