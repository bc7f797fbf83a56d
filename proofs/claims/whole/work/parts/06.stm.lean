/-! part 06: statements: their code, what they mean, and that carrying out the one does the other -/
abbrev tc_A : Type := (Nat → Fin 16) × (Nat → Fin 16) × tc_Out
def tc_tp (vs es br : Nat → Fin 16) : Nat → Fin 16 := fun j => if j < 6 then vs j else if 13 ≤ j ∧ j ≤ 16 then br j else if 17 ≤ j ∧ j < 81 ∧ j % 4 = 1 then es ((j - 17) / 4) else 0
theorem tc_tp_cl (vs es br : Nat → Fin 16) : tc_Cl (tc_tp vs es br) := by
  refine ⟨fun j h1 h2 => ?_, fun j h1 h2 h3 => ?_⟩
  · simp only [tc_tp]
    grind
  · simp only [tc_tp]
    grind
theorem tc_tp_v (vs es br : Nat → Fin 16) {x : Nat} (h : x < 6) : tc_tp vs es br x = vs x := if_pos h
theorem tc_tp_b (vs es br : Nat → Fin 16) {x : Nat} (h : 13 ≤ x) (h' : x ≤ 16) : tc_tp vs es br x = br x := by
  simp only [tc_tp]
  grind
theorem tc_tp_e (vs es br : Nat → Fin 16) {i : Nat} (h : i < 16) : tc_tp vs es br (17 + 4 * i) = es i := by
  simp only [tc_tp]
  rw [if_neg (by omega), if_neg (by omega), if_pos (by omega)]
  exact congrArg es (by omega)
theorem tc_tp_uv (vs es br : Nat → Fin 16) {x : Nat} (v : Fin 16) (h : x < 6) : tc_up (tc_tp vs es br) x v = tc_tp (tc_up vs x v) es br := by
  funext j
  simp only [tc_tp, tc_up]
  grind
theorem tc_tp_ub (vs es br : Nat → Fin 16) {x : Nat} (v : Fin 16) (h : 13 ≤ x) (h' : x ≤ 16) : tc_up (tc_tp vs es br) x v = tc_tp vs es (tc_up br x v) := by
  funext j
  simp only [tc_tp, tc_up]
  grind
theorem tc_tp_ue (vs es br : Nat → Fin 16) {i : Nat} (v : Fin 16) (h : i < 16) : tc_up (tc_tp vs es br) (17 + 4 * i) v = tc_tp vs (tc_up es i v) br := by
  funext j
  simp only [tc_tp, tc_up]
  by_cases e : j = 17 + 4 * i
  · rw [if_pos e, if_neg (by omega), if_neg (by omega), if_pos (by omega), if_pos (by omega)]
  · rw [if_neg e]
    by_cases c1 : j < 6
    · rw [if_pos c1, if_pos c1]
    · rw [if_neg c1, if_neg c1]
      by_cases c2 : 13 ≤ j ∧ j ≤ 16
      · rw [if_pos c2, if_pos c2]
      · rw [if_neg c2, if_neg c2]
        by_cases c3 : 17 ≤ j ∧ j < 81 ∧ j % 4 = 1
        · rw [if_pos c3, if_pos c3, if_neg (by omega)]
        · rw [if_neg c3, if_neg c3]
def tc_simple (lv : Bool) (k x y z : Nat) : tc_Fr :=
  if k = 0 then tc_seq (tc_clear lv x) (tc_tok (1, x, nI y))
  else if k = 1 then tc_seq (tc_addTo lv y 7) (tc_seq (tc_clear lv x) (tc_pour lv 7 x 1))
  else if k = 2 then tc_seq (tc_addTo lv y 7) (tc_pour lv 7 x 1)
  else if k = 3 then tc_seq (tc_addTo lv y 7) (tc_pour lv 7 x (-1))
  else if k = 4 then tc_product lv x y z
  else if k = 5 then tc_less lv x y z
  else if k = 6 then tc_equal lv x y z
  else if k = 7 then tc_fetch lv x y
  else if k = 8 then tc_store lv x y
  else if k = 9 then tc_tok (4, x, 0)
  else tc_quot lv x y z
def tc_evs (k x y z : Nat) (A : tc_A) : tc_A :=
  if k = 0 then (tc_up A.1 x (tc_toV (nI y)), A.2)
  else if k = 1 then (tc_up A.1 x (A.1 y), A.2)
  else if k = 2 then (tc_up A.1 x (A.1 x + tc_toV 1 * A.1 y), A.2)
  else if k = 3 then (tc_up A.1 x (A.1 x + tc_toV (-1) * A.1 y), A.2)
  else if k = 4 then (tc_up A.1 x (A.1 y * A.1 z), A.2)
  else if k = 5 then (tc_up A.1 x (if A.1 y < A.1 z then 1 else 0), A.2)
  else if k = 6 then (tc_up A.1 x (if A.1 y = A.1 z then 1 else 0), A.2)
  else if k = 7 then (tc_up A.1 x (A.2.1 (A.1 y).val), A.2)
  else if k = 8 then (A.1, tc_up A.2.1 (A.1 x).val (A.1 y), A.2.2)
  else if k = 9 then (A.1, A.2.1, tc_say A.2.2 (tc_I (A.1 x)))
  else (tc_up A.1 x (A.1 y / A.1 z), A.2)
theorem tc_sp_simple {lv : Bool} {k x y z p : Nat} {A : tc_A} {br : Nat → Fin 16} (hx : x < 6) (hy : k ≠ 0 → k ≠ 9 → y < 6) (hz : k = 4 ∨ k = 5 ∨ k = 6 ∨ 9 < k → z < 6) : tc_Sp (tc_simple lv k x y z) 20000 0 p (tc_tp A.1 A.2.1 br) A.2.2 0 (tc_tp (tc_evs k x y z A).1 (tc_evs k x y z A).2.1 br) (tc_evs k x y z A).2.2 := by
  have C := tc_tp_cl A.1 A.2.1 br
  have ex := tc_tp_v A.1 A.2.1 br hx
  unfold tc_simple tc_evs
  by_cases k0 : k = 0
  · rw [if_pos k0, if_pos k0]
    have := tc_sp_set (lv := lv) (y := nI y) (p := p) (t := tc_tp A.1 A.2.1 br) (w := A.2.2) hx
    rw [tc_tp_uv _ _ _ _ hx] at this
    exact tc_sp_le this (by omega)
  rw [if_neg k0, if_neg k0]
  by_cases k9 : k = 9
  · subst k9
    have := tc_sp_print (c := x) (n := 0) (p := p) (b := 0) (t := tc_tp A.1 A.2.1 br) (w := A.2.2) (by omega)
    rw [Nat.zero_add, ex] at this
    exact tc_sp_le this (by omega)
  have hy := hy k0 k9
  have ey := tc_tp_v A.1 A.2.1 br hy
  by_cases k1 : k = 1
  · rw [if_pos k1, if_pos k1]
    have := tc_sp_copy (lv := lv) (p := p) (w := A.2.2) C hx hy
    rw [tc_tp_uv _ _ _ _ hx, ey] at this
    exact tc_sp_le this (by omega)
  rw [if_neg k1, if_neg k1]
  by_cases k2 : k = 2
  · rw [if_pos k2, if_pos k2]
    have := tc_sp_plus (lv := lv) (p := p) (n := 1) (w := A.2.2) C hx hy
    rw [tc_tp_uv _ _ _ _ hx, ey, ex] at this
    exact tc_sp_le this (by omega)
  rw [if_neg k2, if_neg k2]
  by_cases k3 : k = 3
  · rw [if_pos k3, if_pos k3]
    have := tc_sp_plus (lv := lv) (p := p) (n := -1) (w := A.2.2) C hx hy
    rw [tc_tp_uv _ _ _ _ hx, ey, ex] at this
    exact tc_sp_le this (by omega)
  rw [if_neg k3, if_neg k3]
  by_cases k4 : k = 4
  · rw [if_pos k4, if_pos k4]
    have hz := hz (by omega)
    have := tc_sp_product (lv := lv) (p := p) (w := A.2.2) C hx hy hz
    rw [tc_tp_uv _ _ _ _ hx, ey, tc_tp_v _ _ _ hz] at this
    exact tc_sp_le this (by omega)
  rw [if_neg k4, if_neg k4]
  by_cases k5 : k = 5
  · rw [if_pos k5, if_pos k5]
    have hz := hz (by omega)
    have := tc_sp_less (lv := lv) (p := p) (w := A.2.2) C hx hy hz
    rw [tc_tp_uv _ _ _ _ hx, ey, tc_tp_v _ _ _ hz] at this
    exact tc_sp_le this (by omega)
  rw [if_neg k5, if_neg k5]
  by_cases k6 : k = 6
  · rw [if_pos k6, if_pos k6]
    have hz := hz (by omega)
    have := tc_sp_equal (lv := lv) (p := p) (w := A.2.2) C hx hy hz
    rw [tc_tp_uv _ _ _ _ hx, ey, tc_tp_v _ _ _ hz] at this
    exact tc_sp_le this (by omega)
  rw [if_neg k6, if_neg k6]
  by_cases k7 : k = 7
  · rw [if_pos k7, if_pos k7]
    have := tc_sp_fetch (lv := lv) (p := p) (w := A.2.2) C hx hy
    rw [tc_tp_uv _ _ _ _ hx, ey, tc_tp_e _ _ _ (A.1 y).isLt] at this
    exact tc_sp_le this (by omega)
  rw [if_neg k7, if_neg k7]
  by_cases k8 : k = 8
  · rw [if_pos k8, if_pos k8]
    have := tc_sp_store (lv := lv) (p := p) (w := A.2.2) C hx hy
    rw [ex, ey, tc_tp_ue _ _ _ _ (A.1 x).isLt] at this
    exact tc_sp_le this (by omega)
  rw [if_neg k8, if_neg k8, if_neg k9, if_neg k9]
  have hz := hz (by omega)
  have := tc_sp_quot (lv := lv) (p := p) (w := A.2.2) C hx hy hz
  rw [tc_tp_uv _ _ _ _ hx, ey, tc_tp_v _ _ _ hz] at this
  exact tc_sp_le this (by omega)
/-- choosing and repeating -/
def tc_choose (lv : Bool) (x ns : Nat) (a b : tc_Fr) : tc_Fr :=
  tc_seq (tc_addTo lv x (13 + 2 * ns)) (tc_seq (tc_tok (1, 14 + 2 * ns, 1)) (tc_seq (tc_loop false (13 + 2 * ns) (tc_seq (tc_tok (1, 14 + 2 * ns, -1)) (tc_seq (tc_clear lv (13 + 2 * ns)) a))) (tc_loop false (14 + 2 * ns) (tc_seq (tc_tok (1, 14 + 2 * ns, -1)) b))))
def tc_repeat (lv : Bool) (x ns : Nat) (a : tc_Fr) : tc_Fr :=
  tc_seq (tc_addTo lv x (13 + 2 * ns)) (tc_loop false (13 + 2 * ns) (tc_seq (tc_tok (1, 13 + 2 * ns, -1)) a))
def tc_it (g : tc_A → tc_A) : Nat → tc_A → tc_A
  | 0, a => a
  | k + 1, a => tc_it g k (g a)
theorem tc_it_s (g : tc_A → tc_A) : ∀ (k : Nat) (a : tc_A), tc_it g (k + 1) a = g (tc_it g k a)
  | 0, _ => rfl
  | k + 1, a => tc_it_s g k (g a)
def tc_run (a : tc_Fr) (n : Nat) (br : Nat → Fin 16) (A A' : tc_A) : Prop := ∀ p, tc_Sp a n 0 p (tc_tp A.1 A.2.1 br) A.2.2 0 (tc_tp A'.1 A'.2.1 br) A'.2.2
theorem tc_sp_choose {lv : Bool} {x ns : Nat} {a b : tc_Fr} {na nb : Nat} {br : Nat → Fin 16} {A Aa Ab : tc_A} (hx : x < 6) (hns : ns ≤ 1) (z1 : br (13 + 2 * ns) = 0) (z2 : br (14 + 2 * ns) = 0) (ha : tc_run a na br A Aa) (hb : tc_run b nb br A Ab) : tc_run (tc_choose lv x ns a b) (400 + na + nb) br A (if A.1 x = 0 then Ab else Aa) := by
  intro p
  have z6 := (tc_tp_cl A.1 A.2.1 br).1 6 (by omega) (by omega)
  have s1 := tc_sp_addTo (lv := lv) (c := x) (d := 13 + 2 * ns) (p := p) (w := A.2.2) (t := tc_tp A.1 A.2.1 br) (by omega) (by omega) (by omega) (by omega) (by omega) z6
  rw [tc_tp_ub _ _ _ _ (by omega) (by omega), tc_tp_b _ _ _ (by omega) (by omega), tc_tp_v _ _ _ hx, z1, show (0 : Fin 16) + A.1 x = A.1 x from Fin.zero_add _] at s1
  have s2 := tc_sp_add (c := 14 + 2 * ns) (n := 1) (b := 0) (p := tc_pl p (tc_addTo lv x (13 + 2 * ns)).1) (w := A.2.2) (t := tc_tp A.1 A.2.1 (tc_up br (13 + 2 * ns) (A.1 x))) (by omega)
  rw [Nat.zero_add, tc_tp_ub _ _ _ _ (by omega) (by omega), tc_tp_b _ _ _ (by omega) (by omega), tc_up_n _ _ (by omega), z2, show (0 : Fin 16) + tc_toV 1 = 1 from by decide] at s2
  by_cases v0 : A.1 x = 0
  · rw [if_pos v0]
    refine tc_sp_le (n := 230 + (2 + (0 + 4 + (2 + nb + 4)))) (tc_sp_seq s1 (tc_sp_seq s2 (tc_sp_seq (t1 := tc_tp A.1 A.2.1 (tc_up br (14 + 2 * ns) 1)) (w1 := A.2.2) (b1 := 0) (tc_sp_if (nb := 0) (by omega) ?_ ?_ ?_ (Nat.le_refl _)) (tc_sp_if (nb := 2 + nb) (by omega) (fun _ => tc_sp_seq (t1 := tc_tp A.1 A.2.1 br) (w1 := A.2.2) (b1 := 0) (tc_sp_cast (tc_sp_add (by omega)) ?_) (hb _)) ?_ ?_ (Nat.le_refl _))))) (by omega)
    · intro h
      rw [Nat.zero_add, tc_tp_b _ _ _ (by omega) (by omega), tc_up_n _ _ (by omega), tc_up_s] at h
      exact absurd v0 h
    · intro h
      rw [Nat.zero_add, tc_tp_b _ _ _ (by omega) (by omega), tc_up_n _ _ (by omega), tc_up_s] at h
      exact absurd v0 h
    · intro _
      refine ⟨congrArg (tc_tp A.1 A.2.1) ?_, rfl⟩
      rw [v0]
      funext i
      simp only [tc_up]
      grind
    · rw [Nat.zero_add, tc_tp_ub _ _ _ _ (by omega) (by omega), tc_tp_b _ _ _ (by omega) (by omega), tc_up_s, tc_m1]
      refine congrArg (tc_tp A.1 A.2.1) ?_
      funext i
      simp only [tc_up]
      grind
    · intro _
      rw [Nat.zero_add, tc_tp_b _ _ _ (by omega) (by omega)]
      exact z2
    · intro h
      rw [Nat.zero_add, tc_tp_b _ _ _ (by omega) (by omega), tc_up_s] at h
      exact absurd h (by decide)
  · rw [if_neg v0]
    refine tc_sp_le (n := 230 + (2 + (2 + (64 + na) + 4 + (0 + 4)))) (tc_sp_seq s1 (tc_sp_seq s2 (tc_sp_seq (t1 := tc_tp Aa.1 Aa.2.1 br) (w1 := Aa.2.2) (b1 := 0) (tc_sp_if (nb := 2 + (64 + na)) (by omega) (fun _ => tc_sp_seq (tc_sp_add (by omega)) (tc_sp_seq (t1 := tc_tp A.1 A.2.1 br) (w1 := A.2.2) (b1 := 0) (tc_sp_cast (tc_sp_clear (by omega)) ?_) (ha _))) ?_ ?_ (Nat.le_refl _)) (tc_sp_if (nb := 0) (by omega) ?_ ?_ ?_ (Nat.le_refl _))))) (by omega)
    · rw [Nat.zero_add, Nat.zero_add, tc_tp_ub _ _ _ _ (by omega) (by omega), tc_tp_ub _ _ _ _ (by omega) (by omega), tc_tp_b _ _ _ (by omega) (by omega), tc_up_s, tc_m1]
      refine congrArg (tc_tp A.1 A.2.1) ?_
      funext i
      simp only [tc_up]
      grind
    · intro _
      rw [Nat.zero_add, tc_tp_b _ _ _ (by omega) (by omega)]
      exact z1
    · intro h
      rw [Nat.zero_add, tc_tp_b _ _ _ (by omega) (by omega), tc_up_n _ _ (by omega), tc_up_s] at h
      exact absurd h v0
    · intro h
      rw [Nat.zero_add, tc_tp_b _ _ _ (by omega) (by omega)] at h
      exact absurd z2 h
    · intro h
      rw [Nat.zero_add, tc_tp_b _ _ _ (by omega) (by omega)] at h
      exact absurd z2 h
    · intro _
      exact ⟨rfl, rfl⟩
theorem tc_sp_repeat {lv : Bool} {x ns : Nat} {a : tc_Fr} {na : Nat} {br : Nat → Fin 16} {A : tc_A} {g : tc_A → tc_A} (hx : x < 6) (hns : ns ≤ 1) (z1 : br (13 + 2 * ns) = 0) (ha : ∀ v A, tc_run a na (tc_up br (13 + 2 * ns) v) A (g A)) : tc_run (tc_repeat lv x ns a) (292 + 15 * na) br A (tc_it g (A.1 x).val A) := by
  intro p
  have hv := (A.1 x).isLt
  have z6 := (tc_tp_cl A.1 A.2.1 br).1 6 (by omega) (by omega)
  have s1 := tc_sp_addTo (lv := lv) (c := x) (d := 13 + 2 * ns) (p := p) (w := A.2.2) (t := tc_tp A.1 A.2.1 br) (by omega) (by omega) (by omega) (by omega) (by omega) z6
  rw [tc_tp_ub _ _ _ _ (by omega) (by omega), tc_tp_b _ _ _ (by omega) (by omega), tc_tp_v _ _ _ hx, z1, show (0 : Fin 16) + A.1 x = A.1 x from Fin.zero_add _] at s1
  have hk : (A.1 x).val * (2 + na + 2) ≤ 15 * (2 + na + 2) := Nat.mul_le_mul_right _ (by omega)
  refine tc_sp_le (n := 230 + (2 + 15 * (2 + na + 2))) (tc_sp_seq s1 (tc_sp_for' (nb := 2 + na) (A.1 x).val (fun _ => 0) (fun j => tc_tp (tc_it g ((A.1 x).val - j) A).1 (tc_it g ((A.1 x).val - j) A).2.1 (tc_up br (13 + 2 * ns) (tc_f j))) (fun j => (tc_it g ((A.1 x).val - j) A).2.2) (by omega) ?_ ?_ ?_ rfl ?_ ?_ rfl ?_ rfl (by omega))) (by omega)
  · rw [Nat.zero_add, tc_tp_b _ _ _ (by omega) (by omega), tc_up_s, tc_f0]
  · intro j hj
    show tc_tp _ _ _ _ ≠ 0
    rw [Nat.zero_add, tc_tp_b _ _ _ (by omega) (by omega), tc_up_s]
    exact tc_fn (by omega)
  · intro j hj
    show tc_Sp _ _ _ _ (tc_tp (tc_it g ((A.1 x).val - (j + 1)) A).1 (tc_it g ((A.1 x).val - (j + 1)) A).2.1 (tc_up br (13 + 2 * ns) (tc_f (j + 1)))) (tc_it g ((A.1 x).val - (j + 1)) A).2.2 _ (tc_tp (tc_it g ((A.1 x).val - j) A).1 (tc_it g ((A.1 x).val - j) A).2.1 (tc_up br (13 + 2 * ns) (tc_f j))) (tc_it g ((A.1 x).val - j) A).2.2
    rw [show (A.1 x).val - j = (A.1 x).val - (j + 1) + 1 from by omega, tc_it_s]
    generalize tc_it g ((A.1 x).val - (j + 1)) A = B
    refine tc_sp_seq (t1 := tc_tp B.1 B.2.1 (tc_up br (13 + 2 * ns) (tc_f j))) (w1 := B.2.2) (b1 := 0) (tc_sp_cast (tc_sp_add (by omega)) ?_) (ha _ _ _)
    rw [Nat.zero_add, tc_tp_ub _ _ _ _ (by omega) (by omega), tc_tp_b _ _ _ (by omega) (by omega), tc_up_s, tc_m1, tc_fs, tc_r2]
    refine congrArg (tc_tp B.1 B.2.1) ?_
    funext i
    simp only [tc_up]
    grind
  · rw [Nat.sub_self, tc_fv]
    rfl
  · rw [Nat.sub_self]
    rfl
  · rw [Nat.sub_zero, tc_f0]
    refine congrArg (tc_tp _ _) ?_
    funext i
    simp only [tc_up]
    grind
