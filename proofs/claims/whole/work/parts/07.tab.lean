/-! part 07: the table of statements, their code and their meaning by their numbers -/
section
variable (K X Y Z Wt Nt : Nat → Nat)
def tc_Ok (s : Nat) : Prop :=
  K s ≤ 13 ∧ 1 ≤ Wt s ∧ Wt s ≤ 12 ∧ Nt s ≤ 2 ∧
  (K s = 10 → X s < s ∧ Y s < s ∧ Wt s = 1 + Wt (X s) + Wt (Y s) ∧ Nt (X s) ≤ Nt s ∧ Nt (Y s) ≤ Nt s) ∧
  (K s = 11 → Y s < s ∧ Z s < s ∧ Wt s = 1 + Wt (Y s) + Wt (Z s) ∧ Nt (Y s) + 1 ≤ Nt s ∧ Nt (Z s) + 1 ≤ Nt s) ∧
  (K s = 12 → Y s < s ∧ Wt s = 1 + Wt (Y s) ∧ Nt (Y s) + 1 ≤ Nt s) ∧
  (K s ≠ 10 → X s < 6) ∧ (K s = 0 → Y s < 16) ∧
  (K s ≠ 0 → K s ≠ 9 → K s ≠ 10 → K s ≠ 11 → K s ≠ 12 → Y s < 6) ∧
  (K s = 4 ∨ K s = 5 ∨ K s = 6 ∨ K s = 13 → Z s < 6)
def tc_cd (lv : Bool) : Nat → Nat → Nat → tc_Fr
  | 0, _, _ => ([], fun _ _ => [])
  | f + 1, s, ns =>
    if K s = 10 then tc_seq (tc_cd lv f (X s) ns) (tc_cd lv f (Y s) ns)
    else if K s = 11 then tc_choose lv (X s) ns (tc_cd lv f (Y s) (ns + 1)) (tc_cd lv f (Z s) (ns + 1))
    else if K s = 12 then tc_repeat lv (X s) ns (tc_cd lv f (Y s) (ns + 1))
    else tc_simple lv (K s) (X s) (Y s) (Z s)
def tc_ev : Nat → Nat → tc_A → tc_A
  | 0, _, A => A
  | f + 1, s, A =>
    if K s = 10 then tc_ev f (Y s) (tc_ev f (X s) A)
    else if K s = 11 then (if A.1 (X s) = 0 then tc_ev f (Z s) A else tc_ev f (Y s) A)
    else if K s = 12 then tc_it (tc_ev f (Y s)) (A.1 (X s)).val A
    else tc_evs (K s) (X s) (Y s) (Z s) A
def tc_bnd (s : Nat) : Nat := 20000 * (Wt s * 16 ^ Nt s)
theorem tc_bnd_a (w d w1 d1 w2 d2 : Nat) (hw : w = 1 + w1 + w2) (h1 : d1 ≤ d) (h2 : d2 ≤ d) : 400 + 20000 * (w1 * 16 ^ d1) + 20000 * (w2 * 16 ^ d2) ≤ 20000 * (w * 16 ^ d) := by
  have p := Nat.pow_le_pow_right (n := 16) (by omega) h1
  have q := Nat.pow_le_pow_right (n := 16) (by omega) h2
  have r : 1 ≤ 16 ^ d := Nat.pow_pos (by decide)
  have p' := Nat.mul_le_mul_left w1 p
  have q' := Nat.mul_le_mul_left w2 q
  have e : w * 16 ^ d = 16 ^ d + w1 * 16 ^ d + w2 * 16 ^ d := by rw [hw, Nat.add_mul, Nat.add_mul, Nat.one_mul]
  rw [e]
  generalize 16 ^ d = P at *
  generalize w1 * P = a at *
  generalize w2 * P = b at *
  generalize w1 * 16 ^ d1 = a' at *
  generalize w2 * 16 ^ d2 = b' at *
  omega
theorem tc_bnd_r (w d w1 d1 : Nat) (hw : w = 1 + w1) (h1 : d1 + 1 ≤ d) : 292 + 15 * (20000 * (w1 * 16 ^ d1)) ≤ 20000 * (w * 16 ^ d) := by
  have p := Nat.pow_le_pow_right (n := 16) (by omega) h1
  have r : 1 ≤ 16 ^ d := Nat.pow_pos (by decide)
  have p' := Nat.mul_le_mul_left w1 p
  have e : w * 16 ^ d = 16 ^ d + w1 * 16 ^ d := by rw [hw, Nat.add_mul, Nat.one_mul]
  rw [e]
  rw [Nat.pow_succ, ← Nat.mul_assoc] at p'
  generalize 16 ^ d = P at *
  generalize w1 * P = a at *
  generalize w1 * 16 ^ d1 = a' at *
  omega
theorem tc_bnd_1 (w d : Nat) (h : 1 ≤ w) : 20000 ≤ 20000 * (w * 16 ^ d) := by
  have r : 1 ≤ 16 ^ d := Nat.pow_pos (by decide)
  have := Nat.mul_le_mul h r
  omega
theorem tc_run_le {a : tc_Fr} {n n' : Nat} {br : Nat → Fin 16} {A A' : tc_A} (h : tc_run a n br A A') (hn : n ≤ n') : tc_run a n' br A A' := fun p => tc_sp_le (h p) hn
/-- carrying out a statement's code does what the statement means -/
theorem tc_main (lv : Bool) (n : Nat) (ok : ∀ s, s < n → tc_Ok K X Y Z Wt Nt s) : ∀ (f s ns : Nat) (br : Nat → Fin 16) (A : tc_A), s < n → s < f → ns + Nt s ≤ 2 → (∀ j, 13 + 2 * ns ≤ j → br j = 0) → tc_run (tc_cd K X Y Z lv f s ns) (tc_bnd Wt Nt s) br A (tc_ev K X Y Z f s A) := by
  intro f
  induction f with
  | zero => intro s ns br A h1 h2; omega
  | succ f ih =>
    intro s ns br A h1 h2 h3 hz
    obtain ⟨o1, o2, o3, o4, o10, o11, o12, ox, oy0, oy, oz⟩ := ok s h1
    unfold tc_cd tc_ev
    by_cases k10 : K s = 10
    · rw [if_pos k10, if_pos k10]
      obtain ⟨q1, q2, q3, q4, q5⟩ := o10 k10
      intro p
      have a1 := ih (X s) ns br A (by omega) (by omega) (by omega) hz
      have a2 := ih (Y s) ns br (tc_ev K X Y Z f (X s) A) (by omega) (by omega) (by omega) hz
      exact tc_sp_le (tc_sp_seq (a1 p) (a2 _)) (Nat.le_trans (by unfold tc_bnd; omega) (tc_bnd_a _ _ _ _ _ _ q3 q4 q5))
    rw [if_neg k10, if_neg k10]
    by_cases k11 : K s = 11
    · rw [if_pos k11, if_pos k11]
      obtain ⟨q1, q2, q3, q4, q5⟩ := o11 k11
      have a1 := ih (Y s) (ns + 1) br A (by omega) (by omega) (by omega) (fun j hj => hz j (by omega))
      have a2 := ih (Z s) (ns + 1) br A (by omega) (by omega) (by omega) (fun j hj => hz j (by omega))
      exact tc_run_le (tc_sp_choose (ox k10) (by omega) (hz _ (by omega)) (hz _ (by omega)) a1 a2) (tc_bnd_a _ _ _ _ _ _ q3 (by omega) (by omega))
    rw [if_neg k11, if_neg k11]
    by_cases k12 : K s = 12
    · rw [if_pos k12, if_pos k12]
      obtain ⟨q1, q2, q3⟩ := o12 k12
      refine tc_run_le (tc_sp_repeat (ox k10) (by omega) (hz _ (by omega)) (fun v B => ih (Y s) (ns + 1) _ B (by omega) (by omega) (by omega) ?_)) (tc_bnd_r _ _ _ _ q2 q3)
      intro j hj
      rw [tc_up_n _ _ (by omega)]
      exact hz j (by omega)
    rw [if_neg k12, if_neg k12]
    intro p
    exact tc_sp_le (tc_sp_simple (ox k10) (fun e1 e2 => oy e1 e2 k10 k11 k12) (fun e => oz (by omega))) (tc_bnd_1 _ _ o2)
/-- the code doesn't hang on how deep the recursion may go -/
theorem tc_cd_f (lv : Bool) (n : Nat) (ok : ∀ s, s < n → tc_Ok K X Y Z Wt Nt s) : ∀ (f f' s ns : Nat), s < n → s < f → s < f' → tc_cd K X Y Z lv f s ns = tc_cd K X Y Z lv f' s ns := by
  intro f
  induction f with
  | zero => intro f' s ns h1 h2; omega
  | succ f ih =>
    intro f' s ns h1 h2 h3
    obtain ⟨o1, o2, o3, o4, o10, o11, o12, ox, oy0, oy, oz⟩ := ok s h1
    cases f' with
    | zero => omega
    | succ f' =>
      unfold tc_cd
      by_cases k10 : K s = 10
      · rw [if_pos k10, if_pos k10]
        obtain ⟨q1, q2, q3, q4, q5⟩ := o10 k10
        rw [ih f' (X s) ns (by omega) (by omega) (by omega), ih f' (Y s) ns (by omega) (by omega) (by omega)]
      rw [if_neg k10, if_neg k10]
      by_cases k11 : K s = 11
      · rw [if_pos k11, if_pos k11]
        obtain ⟨q1, q2, q3, q4, q5⟩ := o11 k11
        rw [ih f' (Y s) (ns + 1) (by omega) (by omega) (by omega), ih f' (Z s) (ns + 1) (by omega) (by omega) (by omega)]
      rw [if_neg k11, if_neg k11]
      by_cases k12 : K s = 12
      · rw [if_pos k12, if_pos k12]
        obtain ⟨q1, q2, q3⟩ := o12 k12
        rw [ih f' (Y s) (ns + 1) (by omega) (by omega) (by omega)]
      rw [if_neg k12, if_neg k12]
theorem tc_ev_f (n : Nat) (ok : ∀ s, s < n → tc_Ok K X Y Z Wt Nt s) : ∀ (f f' s : Nat), s < n → s < f → s < f' → tc_ev K X Y Z f s = tc_ev K X Y Z f' s := by
  intro f
  induction f with
  | zero => intro f' s h1 h2; omega
  | succ f ih =>
    intro f' s h1 h2 h3
    obtain ⟨o1, o2, o3, o4, o10, o11, o12, ox, oy0, oy, oz⟩ := ok s h1
    cases f' with
    | zero => omega
    | succ f' =>
      funext A
      unfold tc_ev
      by_cases k10 : K s = 10
      · rw [if_pos k10, if_pos k10]
        obtain ⟨q1, q2, q3, q4, q5⟩ := o10 k10
        rw [ih f' (X s) (by omega) (by omega) (by omega), ih f' (Y s) (by omega) (by omega) (by omega)]
      rw [if_neg k10, if_neg k10]
      by_cases k11 : K s = 11
      · rw [if_pos k11, if_pos k11]
        obtain ⟨q1, q2, q3, q4, q5⟩ := o11 k11
        rw [ih f' (Y s) (by omega) (by omega) (by omega), ih f' (Z s) (by omega) (by omega) (by omega)]
      rw [if_neg k11, if_neg k11]
      by_cases k12 : K s = 12
      · rw [if_pos k12, if_pos k12]
        obtain ⟨q1, q2, q3⟩ := o12 k12
        rw [ih f' (Y s) (by omega) (by omega) (by omega)]
      rw [if_neg k12, if_neg k12]
end
