/-! part 03: the loops that only add -/
def tc_f (j : Nat) : Fin 16 := ⟨j % 16, Nat.mod_lt _ (by decide)⟩
theorem tc_f0 : tc_f 0 = 0 := rfl
theorem tc_fv (v : Fin 16) : tc_f v.val = v := Fin.eq_of_val_eq (Nat.mod_eq_of_lt v.isLt)
theorem tc_fn {j : Nat} (h : j < 15) : tc_f (j + 1) ≠ 0 := by
  intro e
  have : (j + 1) % 16 = 0 := congrArg Fin.val e
  omega
theorem tc_fs (j : Nat) : tc_f (j + 1) = tc_f j + 1 := by
  apply Fin.eq_of_val_eq
  show (j + 1) % 16 = (j % 16 + 1) % 16
  omega
theorem tc_m1 : tc_toV (-1) = 15 := by decide
theorem tc_p1 : tc_toV 1 = 1 := by decide
theorem tc_r1 (v : Fin 16) : v + 15 * v = 0 := by revert v; decide
theorem tc_r2 (v : Fin 16) : v + 1 + 15 = v := by revert v; decide
theorem tc_r3 (x n v f : Fin 16) : x + n * (v - (f + 1)) + n = x + n * (v - f) := by grind
theorem tc_r4 (x v f : Fin 16) : x + (v - (f + 1)) + 1 = x + (v - f) := by grind
theorem tc_r5 (v : Fin 16) : v - v = 0 := by revert v; decide
theorem tc_r6 (x : Fin 16) : x + 0 = x := by revert x; decide
theorem tc_r7 (n : Fin 16) : n * 0 = 0 := by revert n; decide
theorem tc_r8 (n : Fin 16) : n - 0 = n := by revert n; decide
theorem tc_r9 (n : Fin 16) : 1 * n = n := by revert n; decide
def tc_clear (lv : Bool) (c : Nat) : tc_Fr := tc_loop lv c (tc_tok (1, c, -1))
def tc_pour (lv : Bool) (c d : Nat) (n : Int32) : tc_Fr := tc_loop lv c (tc_seq (tc_tok (1, c, -1)) (tc_tok (1, d, n)))
def tc_pour2 (lv : Bool) (c d e : Nat) : tc_Fr := tc_loop lv c (tc_seq (tc_tok (1, c, -1)) (tc_seq (tc_tok (1, d, 1)) (tc_tok (1, e, 1))))
theorem tc_sp_clear {lv : Bool} {c b p : Nat} {t : Nat → Fin 16} {w : tc_Out} (hc : b + c < 128) : tc_Sp (tc_clear lv c) 64 b p t w b (tc_up t (b + c) 0) w := by
  cases lv with
  | false =>
    have hv := (t (b + c)).isLt
    refine tc_sp_for' (nb := 2) (t (b + c)).val (fun _ => b) (fun j => tc_up t (b + c) (tc_f j)) (fun _ => w) (fun _ _ => hc) ?_ ?_ ?_ rfl ?_ rfl rfl ?_ rfl ?_
    · exact tc_up_s _ _ _
    · intro j hj
      show tc_up t (b + c) (tc_f (j + 1)) (b + c) ≠ 0
      rw [tc_up_s]
      exact tc_fn (by omega)
    · intro j hj
      refine tc_sp_cast (tc_sp_add hc) ?_
      funext i
      simp only [tc_up, tc_fs, tc_m1]
      grind
    · funext i
      simp only [tc_up, tc_fv]
      grind
    · rfl
    · omega
  | true =>
    refine tc_sp_le (n := 2 + 4) (tc_sp_cast (tc_sp_fold hc (tc_sm_add hc)) ?_) (by omega)
    rw [tc_m1, tc_r1]
theorem tc_sp_pour {lv : Bool} {c d b p : Nat} {n : Int32} {t : Nat → Fin 16} {w : tc_Out} (hc : b + c < 128) (hd : b + d < 128) (ne : c ≠ d) : tc_Sp (tc_pour lv c d n) 100 b p t w b (tc_up (tc_up t (b + c) 0) (b + d) (t (b + d) + tc_toV n * t (b + c))) w := by
  cases lv with
  | false =>
    have hv := (t (b + c)).isLt
    refine tc_sp_for' (nb := 2 + 2) (t (b + c)).val (fun _ => b) (fun j => tc_up (tc_up t (b + c) (tc_f j)) (b + d) (t (b + d) + tc_toV n * (t (b + c) - tc_f j))) (fun _ => w) (fun _ _ => hc) ?_ ?_ ?_ rfl ?_ rfl rfl ?_ rfl ?_
    · simp only [tc_up, tc_f0]
      grind
    · intro j hj
      have := tc_fn (j := j) (by omega)
      simp only [tc_up]
      grind
    · intro j hj
      refine tc_sp_cast (tc_sp_seq (tc_sp_add hc) (tc_sp_add hd)) ?_
      funext i
      simp only [tc_up, tc_fs, tc_m1]
      grind
    · funext i
      simp only [tc_up, tc_fv]
      grind
    · funext i
      simp only [tc_up, tc_f0]
      grind
    · omega
  | true =>
    refine tc_sp_le (n := 2 + 2 + 4) (tc_sp_cast (tc_sp_fold hc (tc_sp_seq (tc_sm_add hc) (tc_sm_add hd))) ?_) (by omega)
    funext i
    simp only [tc_up, tc_m1]
    grind
theorem tc_sp_pour2 {lv : Bool} {c d e b p : Nat} {t : Nat → Fin 16} {w : tc_Out} (hc : b + c < 128) (hd : b + d < 128) (he : b + e < 128) (n1 : c ≠ d) (n2 : c ≠ e) (n3 : d ≠ e) : tc_Sp (tc_pour2 lv c d e) 130 b p t w b (tc_up (tc_up (tc_up t (b + c) 0) (b + d) (t (b + d) + t (b + c))) (b + e) (t (b + e) + t (b + c))) w := by
  cases lv with
  | false =>
    have hv := (t (b + c)).isLt
    refine tc_sp_for' (nb := 2 + (2 + 2)) (t (b + c)).val (fun _ => b) (fun j => tc_up (tc_up (tc_up t (b + c) (tc_f j)) (b + d) (t (b + d) + (t (b + c) - tc_f j))) (b + e) (t (b + e) + (t (b + c) - tc_f j))) (fun _ => w) (fun _ _ => hc) ?_ ?_ ?_ rfl ?_ rfl rfl ?_ rfl ?_
    · simp only [tc_up, tc_f0]
      grind
    · intro j hj
      have := tc_fn (j := j) (by omega)
      simp only [tc_up]
      grind
    · intro j hj
      refine tc_sp_cast (tc_sp_seq (tc_sp_add hc) (tc_sp_seq (tc_sp_add hd) (tc_sp_add he))) ?_
      funext i
      simp only [tc_up, tc_fs, tc_m1, tc_p1]
      grind
    · funext i
      simp only [tc_up, tc_fv]
      grind
    · funext i
      simp only [tc_up, tc_f0]
      grind
    · omega
  | true =>
    refine tc_sp_le (n := 2 + (2 + 2) + 4) (tc_sp_cast (tc_sp_fold hc (tc_sp_seq (tc_sm_add hc) (tc_sp_seq (tc_sm_add hd) (tc_sm_add he)))) ?_) (by omega)
    funext i
    simp only [tc_up, tc_m1, tc_p1]
    grind
def tc_addTo (lv : Bool) (c d : Nat) : tc_Fr := tc_seq (tc_pour2 lv c d 6) (tc_pour lv 6 c 1)
/-- what addTo does to a tape whose spare cell is 0 -/
theorem tc_sp_addTo {lv : Bool} {c d p : Nat} {t : Nat → Fin 16} {w : tc_Out} (hc : c < 128) (hd : d < 128) (n1 : c ≠ d) (n2 : c ≠ 6) (n3 : d ≠ 6) (z : t 6 = 0) : tc_Sp (tc_addTo lv c d) 230 0 p t w 0 (tc_up t d (t d + t c)) w := by
  refine tc_sp_cast (tc_sp_seq (tc_sp_pour2 (by omega) (by omega) (by omega) n1 n2 n3) (tc_sp_pour (by omega) (by omega) (Ne.symm n2))) ?_
  funext i
  simp only [tc_up, tc_p1, Nat.zero_add]
  grind
