/-! part 17: stating (made by wip/whole/gen17.py) -/
def tc_Fit (n k a b c : Nat) : Prop :=
  if k = 0 then a < 6 ∧ b < 16 else if k = 9 then a < 6 else if k = 10 then a < n ∧ b < n else if k = 11 then a < 6 ∧ b < n ∧ c < n else if k = 12 then a < 6 ∧ b < n else if k = 4 ∨ k = 5 ∨ k = 6 ∨ k = 13 then a < 6 ∧ b < 6 ∧ c < 6 else a < 6 ∧ b < 6
def tc_mx (a b : Nat) : Nat := if a ≤ b then b else a
def tc_w (N : Nat → Nat) (k a b c : Nat) : Nat := if k = 10 then 1 + N a + N b else if k = 11 then 1 + N b + N c else if k = 12 then 1 + N b else 1
def tc_d (N : Nat → Nat) (k a b c : Nat) : Nat := if k = 10 then tc_mx (N a) (N b) else if k = 11 then 1 + tc_mx (N b) (N c) else if k = 12 then 1 + N b else 0
theorem tc_mx_l (a b : Nat) : a ≤ tc_mx a b := by unfold tc_mx; split <;> omega
theorem tc_mx_r (a b : Nat) : b ≤ tc_mx a b := by unfold tc_mx; split <;> omega
theorem tc_mx_u (a b m : Nat) (h1 : a ≤ m) (h2 : b ≤ m) : tc_mx a b ≤ m := by unfold tc_mx; split <;> omega
section
variable {P : Int32 → Prop} {n : Nat} {said lev ln pc wt nst hi : Int32} {ka fi se th we ne tape kept ops args tasks starts vr el bg tm : Nat → Int32}
theorem tc_x94 (p1 p2 : Int32) (h1 : tc_u p1 < 6 ∧ tc_u p2 < 6 → P 1) (h0 : ¬ (tc_u p1 < 6 ∧ tc_u p2 < 6) → P 0) : wX_operandsFit_94 P p1 p2 (nI n) (said) (lev) (ln) (pc) (wt) (nst) (ka) (fi) (se) (th) (we) (ne) (tape) (kept) (ops) (args) (tasks) (starts) := by
  delta wX_operandsFit_94
  exact tc_xvar p1 (fun a1 => br_f (by decide) (tc_xvar p2 (fun a2 => br_f (by decide) (h1 ⟨a1, a2⟩)) (fun a2 => br_t rfl (h0 (fun c => a2 c.2))))) (fun a1 => br_t rfl (h0 (fun c => a1 c.1)))
theorem tc_x116 (p1 p2 p3 : Int32) (h1 : tc_u p1 < 6 ∧ tc_u p2 < 6 ∧ tc_u p3 < 6 → P 1) (h0 : ¬ (tc_u p1 < 6 ∧ tc_u p2 < 6 ∧ tc_u p3 < 6) → P 0) : wX_operandsFit_116 P p1 p2 p3 (nI n) (said) (lev) (ln) (pc) (wt) (nst) (ka) (fi) (se) (th) (we) (ne) (tape) (kept) (ops) (args) (tasks) (starts) := by
  delta wX_operandsFit_116
  exact tc_xvar p1 (fun a1 => br_f (by decide) (tc_xvar p2 (fun a2 => br_f (by decide) (tc_xvar p3 (fun a3 => br_f (by decide) (h1 ⟨a1, a2, a3⟩)) (fun a3 => br_t rfl (h0 (fun c => a3 c.2.2))))) (fun a2 => br_t rfl (h0 (fun c => a2 c.2.1))))) (fun a1 => br_t rfl (h0 (fun c => a1 c.1)))
theorem tc_y161a (p1 p2 p3 : Int32) (h1 : tc_u p1 < 6 ∧ tc_u p2 < 6 → P 1) (h0 : ¬ (tc_u p1 < 6 ∧ tc_u p2 < 6) → P 0) : wY_fits_161 P p1 p2 p3 0 (nI n) (hi) (said) (ka) (fi) (se) (th) (we) (ne) (vr) (el) (bg) (tm) (kept) := by
  delta wY_fits_161
  exact tc_yvar p1 (fun a1 => br_f (by decide) (tc_yvar p2 (fun a2 => br_f (by decide) (br_t rfl (h1 ⟨a1, a2⟩))) (fun a2 => br_t rfl (h0 (fun c => a2 c.2))))) (fun a1 => br_t rfl (h0 (fun c => a1 c.1)))
theorem tc_y156 (p1 p2 p3 : Int32) (h1 : tc_u p1 < 6 ∧ tc_u p2 < 6 ∧ tc_u p3 < 6 → P 1) (h0 : ¬ (tc_u p1 < 6 ∧ tc_u p2 < 6 ∧ tc_u p3 < 6) → P 0) : wY_fits_156 P p1 p2 p3 (nI n) (hi) (said) (ka) (fi) (se) (th) (we) (ne) (vr) (el) (bg) (tm) (kept) := by
  delta wY_fits_156 wY_fits_161
  exact tc_yvar p1 (fun a1 => br_f (by decide) (tc_yvar p2 (fun a2 => br_f (by decide) (br_f (by decide) (tc_yvar p3 (fun a3 => br_f (by decide) (h1 ⟨a1, a2, a3⟩)) (fun a3 => br_t rfl (h0 (fun c => a3 c.2.2)))))) (fun a2 => br_t rfl (h0 (fun c => a2 c.2.1))))) (fun a1 => br_t rfl (h0 (fun c => a1 c.1)))
theorem tc_xf0 (hn : n ≤ 40) (p1 p2 p3 : Int32) (h1 : tc_u p1 < 6 ∧ tc_u p2 < 16 → P 1) (h0 : ¬ (tc_u p1 < 6 ∧ tc_u p2 < 16) → P 0) : wpX_operandsFit P (nI n, said, lev, ln, pc, wt, nst, ka, fi, se, th, we, ne, tape, kept, ops, args, tasks, starts) (nI 0) p1 p2 p3 := by
  delta wpX_operandsFit
  exact br_f (by decide) (br_f (by decide) (br_t rfl (tc_xvar p1 (fun a1 => br_f (by decide) (tc_xnum p2 (fun a2 => br_f (by decide) (h1 ⟨a1, a2⟩)) (fun a2 => br_t rfl (h0 (fun c => a2 c.2))))) (fun a1 => br_t rfl (h0 (fun c => a1 c.1))))))
theorem tc_yf0 (hn : n ≤ 40) (p1 p2 p3 : Int32) (h1 : tc_u p1 < 6 ∧ tc_u p2 < 16 → P 1) (h0 : ¬ (tc_u p1 < 6 ∧ tc_u p2 < 16) → P 0) : wpY_fits P (nI n, hi, said, ka, fi, se, th, we, ne, vr, el, bg, tm, kept) (nI 0) p1 p2 p3 := by
  delta wpY_fits
  exact br_t rfl (tc_yvar p1 (fun a1 => br_f (by decide) (tc_ynum p2 (fun a2 => br_f (by decide) (h1 ⟨a1, a2⟩)) (fun a2 => br_t rfl (h0 (fun c => a2 c.2))))) (fun a1 => br_t rfl (h0 (fun c => a1 c.1))))
theorem tc_xf1 (hn : n ≤ 40) (p1 p2 p3 : Int32) (h1 : tc_u p1 < 6 ∧ tc_u p2 < 6 → P 1) (h0 : ¬ (tc_u p1 < 6 ∧ tc_u p2 < 6) → P 0) : wpX_operandsFit P (nI n, said, lev, ln, pc, wt, nst, ka, fi, se, th, we, ne, tape, kept, ops, args, tasks, starts) (nI 1) p1 p2 p3 := by
  delta wpX_operandsFit
  exact br_f (by decide) (br_f (by decide) (br_f (by decide) (br_t rfl (tc_x94 p1 p2 h1 h0))))
theorem tc_yf1 (hn : n ≤ 40) (p1 p2 p3 : Int32) (h1 : tc_u p1 < 6 ∧ tc_u p2 < 6 → P 1) (h0 : ¬ (tc_u p1 < 6 ∧ tc_u p2 < 6) → P 0) : wpY_fits P (nI n, hi, said, ka, fi, se, th, we, ne, vr, el, bg, tm, kept) (nI 1) p1 p2 p3 := by
  delta wpY_fits
  exact br_f (by decide) (br_f (by decide) (br_f (by decide) (br_f (by decide) (br_f (by decide) (br_f (by decide) (br_f (by decide) (br_f (by decide) (br_f (by decide) (tc_y161a p1 p2 p3 h1 h0)))))))))
theorem tc_xf2 (hn : n ≤ 40) (p1 p2 p3 : Int32) (h1 : tc_u p1 < 6 ∧ tc_u p2 < 6 → P 1) (h0 : ¬ (tc_u p1 < 6 ∧ tc_u p2 < 6) → P 0) : wpX_operandsFit P (nI n, said, lev, ln, pc, wt, nst, ka, fi, se, th, we, ne, tape, kept, ops, args, tasks, starts) (nI 2) p1 p2 p3 := by
  delta wpX_operandsFit
  exact br_f (by decide) (br_f (by decide) (br_f (by decide) (br_f (by decide) (br_t rfl (tc_x94 p1 p2 h1 h0)))))
theorem tc_yf2 (hn : n ≤ 40) (p1 p2 p3 : Int32) (h1 : tc_u p1 < 6 ∧ tc_u p2 < 6 → P 1) (h0 : ¬ (tc_u p1 < 6 ∧ tc_u p2 < 6) → P 0) : wpY_fits P (nI n, hi, said, ka, fi, se, th, we, ne, vr, el, bg, tm, kept) (nI 2) p1 p2 p3 := by
  delta wpY_fits
  exact br_f (by decide) (br_f (by decide) (br_f (by decide) (br_f (by decide) (br_f (by decide) (br_f (by decide) (br_f (by decide) (br_f (by decide) (br_f (by decide) (tc_y161a p1 p2 p3 h1 h0)))))))))
theorem tc_xf3 (hn : n ≤ 40) (p1 p2 p3 : Int32) (h1 : tc_u p1 < 6 ∧ tc_u p2 < 6 → P 1) (h0 : ¬ (tc_u p1 < 6 ∧ tc_u p2 < 6) → P 0) : wpX_operandsFit P (nI n, said, lev, ln, pc, wt, nst, ka, fi, se, th, we, ne, tape, kept, ops, args, tasks, starts) (nI 3) p1 p2 p3 := by
  delta wpX_operandsFit
  exact br_f (by decide) (br_f (by decide) (br_f (by decide) (br_f (by decide) (br_f (by decide) (br_t rfl (tc_x94 p1 p2 h1 h0))))))
theorem tc_yf3 (hn : n ≤ 40) (p1 p2 p3 : Int32) (h1 : tc_u p1 < 6 ∧ tc_u p2 < 6 → P 1) (h0 : ¬ (tc_u p1 < 6 ∧ tc_u p2 < 6) → P 0) : wpY_fits P (nI n, hi, said, ka, fi, se, th, we, ne, vr, el, bg, tm, kept) (nI 3) p1 p2 p3 := by
  delta wpY_fits
  exact br_f (by decide) (br_f (by decide) (br_f (by decide) (br_f (by decide) (br_f (by decide) (br_f (by decide) (br_f (by decide) (br_f (by decide) (br_f (by decide) (tc_y161a p1 p2 p3 h1 h0)))))))))
theorem tc_xf4 (hn : n ≤ 40) (p1 p2 p3 : Int32) (h1 : tc_u p1 < 6 ∧ tc_u p2 < 6 ∧ tc_u p3 < 6 → P 1) (h0 : ¬ (tc_u p1 < 6 ∧ tc_u p2 < 6 ∧ tc_u p3 < 6) → P 0) : wpX_operandsFit P (nI n, said, lev, ln, pc, wt, nst, ka, fi, se, th, we, ne, tape, kept, ops, args, tasks, starts) (nI 4) p1 p2 p3 := by
  delta wpX_operandsFit
  exact br_f (by decide) (br_f (by decide) (br_f (by decide) (br_f (by decide) (br_f (by decide) (br_f (by decide) (br_t rfl (tc_x116 p1 p2 p3 h1 h0)))))))
theorem tc_yf4 (hn : n ≤ 40) (p1 p2 p3 : Int32) (h1 : tc_u p1 < 6 ∧ tc_u p2 < 6 ∧ tc_u p3 < 6 → P 1) (h0 : ¬ (tc_u p1 < 6 ∧ tc_u p2 < 6 ∧ tc_u p3 < 6) → P 0) : wpY_fits P (nI n, hi, said, ka, fi, se, th, we, ne, vr, el, bg, tm, kept) (nI 4) p1 p2 p3 := by
  delta wpY_fits
  exact br_f (by decide) (br_f (by decide) (br_f (by decide) (br_f (by decide) (br_f (by decide) (br_t rfl (tc_y156 p1 p2 p3 h1 h0))))))
theorem tc_xf5 (hn : n ≤ 40) (p1 p2 p3 : Int32) (h1 : tc_u p1 < 6 ∧ tc_u p2 < 6 ∧ tc_u p3 < 6 → P 1) (h0 : ¬ (tc_u p1 < 6 ∧ tc_u p2 < 6 ∧ tc_u p3 < 6) → P 0) : wpX_operandsFit P (nI n, said, lev, ln, pc, wt, nst, ka, fi, se, th, we, ne, tape, kept, ops, args, tasks, starts) (nI 5) p1 p2 p3 := by
  delta wpX_operandsFit
  exact br_f (by decide) (br_f (by decide) (br_f (by decide) (br_f (by decide) (br_f (by decide) (br_f (by decide) (br_f (by decide) (br_t rfl (tc_x116 p1 p2 p3 h1 h0))))))))
theorem tc_yf5 (hn : n ≤ 40) (p1 p2 p3 : Int32) (h1 : tc_u p1 < 6 ∧ tc_u p2 < 6 ∧ tc_u p3 < 6 → P 1) (h0 : ¬ (tc_u p1 < 6 ∧ tc_u p2 < 6 ∧ tc_u p3 < 6) → P 0) : wpY_fits P (nI n, hi, said, ka, fi, se, th, we, ne, vr, el, bg, tm, kept) (nI 5) p1 p2 p3 := by
  delta wpY_fits
  exact br_f (by decide) (br_f (by decide) (br_f (by decide) (br_f (by decide) (br_f (by decide) (br_f (by decide) (br_t rfl (tc_y156 p1 p2 p3 h1 h0)))))))
theorem tc_xf6 (hn : n ≤ 40) (p1 p2 p3 : Int32) (h1 : tc_u p1 < 6 ∧ tc_u p2 < 6 ∧ tc_u p3 < 6 → P 1) (h0 : ¬ (tc_u p1 < 6 ∧ tc_u p2 < 6 ∧ tc_u p3 < 6) → P 0) : wpX_operandsFit P (nI n, said, lev, ln, pc, wt, nst, ka, fi, se, th, we, ne, tape, kept, ops, args, tasks, starts) (nI 6) p1 p2 p3 := by
  delta wpX_operandsFit
  exact br_f (by decide) (br_f (by decide) (br_f (by decide) (br_f (by decide) (br_f (by decide) (br_f (by decide) (br_f (by decide) (br_f (by decide) (br_t rfl (tc_x116 p1 p2 p3 h1 h0)))))))))
theorem tc_yf6 (hn : n ≤ 40) (p1 p2 p3 : Int32) (h1 : tc_u p1 < 6 ∧ tc_u p2 < 6 ∧ tc_u p3 < 6 → P 1) (h0 : ¬ (tc_u p1 < 6 ∧ tc_u p2 < 6 ∧ tc_u p3 < 6) → P 0) : wpY_fits P (nI n, hi, said, ka, fi, se, th, we, ne, vr, el, bg, tm, kept) (nI 6) p1 p2 p3 := by
  delta wpY_fits
  exact br_f (by decide) (br_f (by decide) (br_f (by decide) (br_f (by decide) (br_f (by decide) (br_f (by decide) (br_f (by decide) (br_t rfl (tc_y156 p1 p2 p3 h1 h0))))))))
theorem tc_xf7 (hn : n ≤ 40) (p1 p2 p3 : Int32) (h1 : tc_u p1 < 6 ∧ tc_u p2 < 6 → P 1) (h0 : ¬ (tc_u p1 < 6 ∧ tc_u p2 < 6) → P 0) : wpX_operandsFit P (nI n, said, lev, ln, pc, wt, nst, ka, fi, se, th, we, ne, tape, kept, ops, args, tasks, starts) (nI 7) p1 p2 p3 := by
  delta wpX_operandsFit
  exact br_f (by decide) (br_f (by decide) (br_f (by decide) (br_f (by decide) (br_f (by decide) (br_f (by decide) (br_f (by decide) (br_f (by decide) (br_f (by decide) (br_t rfl (tc_x94 p1 p2 h1 h0))))))))))
theorem tc_yf7 (hn : n ≤ 40) (p1 p2 p3 : Int32) (h1 : tc_u p1 < 6 ∧ tc_u p2 < 6 → P 1) (h0 : ¬ (tc_u p1 < 6 ∧ tc_u p2 < 6) → P 0) : wpY_fits P (nI n, hi, said, ka, fi, se, th, we, ne, vr, el, bg, tm, kept) (nI 7) p1 p2 p3 := by
  delta wpY_fits
  exact br_f (by decide) (br_f (by decide) (br_f (by decide) (br_f (by decide) (br_f (by decide) (br_f (by decide) (br_f (by decide) (br_f (by decide) (br_f (by decide) (tc_y161a p1 p2 p3 h1 h0)))))))))
theorem tc_xf8 (hn : n ≤ 40) (p1 p2 p3 : Int32) (h1 : tc_u p1 < 6 ∧ tc_u p2 < 6 → P 1) (h0 : ¬ (tc_u p1 < 6 ∧ tc_u p2 < 6) → P 0) : wpX_operandsFit P (nI n, said, lev, ln, pc, wt, nst, ka, fi, se, th, we, ne, tape, kept, ops, args, tasks, starts) (nI 8) p1 p2 p3 := by
  delta wpX_operandsFit
  exact br_f (by decide) (br_f (by decide) (br_f (by decide) (br_f (by decide) (br_f (by decide) (br_f (by decide) (br_f (by decide) (br_f (by decide) (br_f (by decide) (br_f (by decide) (br_t rfl (tc_x94 p1 p2 h1 h0)))))))))))
theorem tc_yf8 (hn : n ≤ 40) (p1 p2 p3 : Int32) (h1 : tc_u p1 < 6 ∧ tc_u p2 < 6 → P 1) (h0 : ¬ (tc_u p1 < 6 ∧ tc_u p2 < 6) → P 0) : wpY_fits P (nI n, hi, said, ka, fi, se, th, we, ne, vr, el, bg, tm, kept) (nI 8) p1 p2 p3 := by
  delta wpY_fits
  exact br_f (by decide) (br_f (by decide) (br_f (by decide) (br_f (by decide) (br_f (by decide) (br_f (by decide) (br_f (by decide) (br_f (by decide) (br_f (by decide) (tc_y161a p1 p2 p3 h1 h0)))))))))
theorem tc_xf9 (hn : n ≤ 40) (p1 p2 p3 : Int32) (h1 : tc_u p1 < 6 → P 1) (h0 : ¬ (tc_u p1 < 6) → P 0) : wpX_operandsFit P (nI n, said, lev, ln, pc, wt, nst, ka, fi, se, th, we, ne, tape, kept, ops, args, tasks, starts) (nI 9) p1 p2 p3 := by
  delta wpX_operandsFit
  exact br_f (by decide) (br_f (by decide) (br_f (by decide) (br_f (by decide) (br_f (by decide) (br_f (by decide) (br_f (by decide) (br_f (by decide) (br_f (by decide) (br_f (by decide) (br_f (by decide) (br_t rfl (tc_xvar p1 (fun a => ⟨tc_nb _ (Or.inr rfl), h1 a⟩) (fun a => ⟨tc_nb _ (Or.inl rfl), h0 a⟩)))))))))))))
theorem tc_yf9 (hn : n ≤ 40) (p1 p2 p3 : Int32) (h1 : tc_u p1 < 6 → P 1) (h0 : ¬ (tc_u p1 < 6) → P 0) : wpY_fits P (nI n, hi, said, ka, fi, se, th, we, ne, vr, el, bg, tm, kept) (nI 9) p1 p2 p3 := by
  delta wpY_fits
  exact br_f (by decide) (br_t rfl (tc_yvar p1 (fun a => ⟨tc_nb _ (Or.inr rfl), h1 a⟩) (fun a => ⟨tc_nb _ (Or.inl rfl), h0 a⟩)))
theorem tc_xf10 (hn : n ≤ 40) (p1 p2 p3 : Int32) (h1 : tc_u p1 < n ∧ tc_u p2 < n → P 1) (h0 : ¬ (tc_u p1 < n ∧ tc_u p2 < n) → P 0) : wpX_operandsFit P (nI n, said, lev, ln, pc, wt, nst, ka, fi, se, th, we, ne, tape, kept, ops, args, tasks, starts) (nI 10) p1 p2 p3 := by
  delta wpX_operandsFit
  exact br_f (by decide) (br_f (by decide) (br_f (by decide) (br_f (by decide) (br_f (by decide) (br_f (by decide) (br_f (by decide) (br_f (by decide) (br_f (by decide) (br_f (by decide) (br_f (by decide) (br_f (by decide) (br_t rfl (tc_xst hn p1 (fun a1 => br_f (by decide) (tc_xst hn p2 (fun a2 => br_f (by decide) (h1 ⟨a1, a2⟩)) (fun a2 => br_t rfl (h0 (fun c => a2 c.2))))) (fun a1 => br_t rfl (h0 (fun c => a1 c.1))))))))))))))))
theorem tc_yf10 (hn : n ≤ 40) (p1 p2 p3 : Int32) (h1 : tc_u p1 < n ∧ tc_u p2 < n → P 1) (h0 : ¬ (tc_u p1 < n ∧ tc_u p2 < n) → P 0) : wpY_fits P (nI n, hi, said, ka, fi, se, th, we, ne, vr, el, bg, tm, kept) (nI 10) p1 p2 p3 := by
  delta wpY_fits
  exact br_f (by decide) (br_f (by decide) (br_t rfl (tc_yst hn p1 (fun a1 => br_f (by decide) (tc_yst hn p2 (fun a2 => br_f (by decide) (h1 ⟨a1, a2⟩)) (fun a2 => br_t rfl (h0 (fun c => a2 c.2))))) (fun a1 => br_t rfl (h0 (fun c => a1 c.1))))))
theorem tc_xf11 (hn : n ≤ 40) (p1 p2 p3 : Int32) (h1 : tc_u p1 < 6 ∧ tc_u p2 < n ∧ tc_u p3 < n → P 1) (h0 : ¬ (tc_u p1 < 6 ∧ tc_u p2 < n ∧ tc_u p3 < n) → P 0) : wpX_operandsFit P (nI n, said, lev, ln, pc, wt, nst, ka, fi, se, th, we, ne, tape, kept, ops, args, tasks, starts) (nI 11) p1 p2 p3 := by
  delta wpX_operandsFit
  exact br_f (by decide) (br_f (by decide) (br_f (by decide) (br_f (by decide) (br_f (by decide) (br_f (by decide) (br_f (by decide) (br_f (by decide) (br_f (by decide) (br_f (by decide) (br_f (by decide) (br_f (by decide) (br_f (by decide) (br_t rfl (tc_xvar p1 (fun a1 => br_f (by decide) (tc_xst hn p2 (fun a2 => br_f (by decide) (tc_xst hn p3 (fun a3 => br_f (by decide) (h1 ⟨a1, a2, a3⟩)) (fun a3 => br_t rfl (h0 (fun c => a3 c.2.2))))) (fun a2 => br_t rfl (h0 (fun c => a2 c.2.1))))) (fun a1 => br_t rfl (h0 (fun c => a1 c.1)))))))))))))))))
theorem tc_yf11 (hn : n ≤ 40) (p1 p2 p3 : Int32) (h1 : tc_u p1 < 6 ∧ tc_u p2 < n ∧ tc_u p3 < n → P 1) (h0 : ¬ (tc_u p1 < 6 ∧ tc_u p2 < n ∧ tc_u p3 < n) → P 0) : wpY_fits P (nI n, hi, said, ka, fi, se, th, we, ne, vr, el, bg, tm, kept) (nI 11) p1 p2 p3 := by
  delta wpY_fits
  exact br_f (by decide) (br_f (by decide) (br_f (by decide) (br_t rfl (tc_yvar p1 (fun a1 => br_f (by decide) (tc_yst hn p2 (fun a2 => br_f (by decide) (tc_yst hn p3 (fun a3 => br_f (by decide) (h1 ⟨a1, a2, a3⟩)) (fun a3 => br_t rfl (h0 (fun c => a3 c.2.2))))) (fun a2 => br_t rfl (h0 (fun c => a2 c.2.1))))) (fun a1 => br_t rfl (h0 (fun c => a1 c.1)))))))
theorem tc_xf12 (hn : n ≤ 40) (p1 p2 p3 : Int32) (h1 : tc_u p1 < 6 ∧ tc_u p2 < n → P 1) (h0 : ¬ (tc_u p1 < 6 ∧ tc_u p2 < n) → P 0) : wpX_operandsFit P (nI n, said, lev, ln, pc, wt, nst, ka, fi, se, th, we, ne, tape, kept, ops, args, tasks, starts) (nI 12) p1 p2 p3 := by
  delta wpX_operandsFit
  exact br_f (by decide) (br_f (by decide) (br_f (by decide) (br_f (by decide) (br_f (by decide) (br_f (by decide) (br_f (by decide) (br_f (by decide) (br_f (by decide) (br_f (by decide) (br_f (by decide) (br_f (by decide) (br_f (by decide) (br_f (by decide) (br_t rfl (tc_xvar p1 (fun a1 => br_f (by decide) (tc_xst hn p2 (fun a2 => br_f (by decide) (h1 ⟨a1, a2⟩)) (fun a2 => br_t rfl (h0 (fun c => a2 c.2))))) (fun a1 => br_t rfl (h0 (fun c => a1 c.1))))))))))))))))))
theorem tc_yf12 (hn : n ≤ 40) (p1 p2 p3 : Int32) (h1 : tc_u p1 < 6 ∧ tc_u p2 < n → P 1) (h0 : ¬ (tc_u p1 < 6 ∧ tc_u p2 < n) → P 0) : wpY_fits P (nI n, hi, said, ka, fi, se, th, we, ne, vr, el, bg, tm, kept) (nI 12) p1 p2 p3 := by
  delta wpY_fits
  exact br_f (by decide) (br_f (by decide) (br_f (by decide) (br_f (by decide) (br_t rfl (tc_yvar p1 (fun a1 => br_f (by decide) (tc_yst hn p2 (fun a2 => br_f (by decide) (h1 ⟨a1, a2⟩)) (fun a2 => br_t rfl (h0 (fun c => a2 c.2))))) (fun a1 => br_t rfl (h0 (fun c => a1 c.1))))))))
theorem tc_xf13 (hn : n ≤ 40) (p1 p2 p3 : Int32) (h1 : tc_u p1 < 6 ∧ tc_u p2 < 6 ∧ tc_u p3 < 6 → P 1) (h0 : ¬ (tc_u p1 < 6 ∧ tc_u p2 < 6 ∧ tc_u p3 < 6) → P 0) : wpX_operandsFit P (nI n, said, lev, ln, pc, wt, nst, ka, fi, se, th, we, ne, tape, kept, ops, args, tasks, starts) (nI 13) p1 p2 p3 := by
  delta wpX_operandsFit
  exact br_f (by decide) (br_f (by decide) (br_f (by decide) (br_f (by decide) (br_f (by decide) (br_f (by decide) (br_f (by decide) (br_f (by decide) (br_f (by decide) (br_f (by decide) (br_f (by decide) (br_f (by decide) (br_f (by decide) (br_f (by decide) (br_f (by decide) (br_t rfl (tc_x116 p1 p2 p3 h1 h0))))))))))))))))
theorem tc_yf13 (hn : n ≤ 40) (p1 p2 p3 : Int32) (h1 : tc_u p1 < 6 ∧ tc_u p2 < 6 ∧ tc_u p3 < 6 → P 1) (h0 : ¬ (tc_u p1 < 6 ∧ tc_u p2 < 6 ∧ tc_u p3 < 6) → P 0) : wpY_fits P (nI n, hi, said, ka, fi, se, th, we, ne, vr, el, bg, tm, kept) (nI 13) p1 p2 p3 := by
  delta wpY_fits
  exact br_f (by decide) (br_f (by decide) (br_f (by decide) (br_f (by decide) (br_f (by decide) (br_f (by decide) (br_f (by decide) (br_f (by decide) (br_t rfl (tc_y156 p1 p2 p3 h1 h0)))))))))
theorem tc_xfit (hn : n ≤ 40) (k : Nat) (hk : k < 14) (p1 p2 p3 : Int32) (h1 : tc_Fit n k (tc_u p1) (tc_u p2) (tc_u p3) → P 1) (h0 : ¬ tc_Fit n k (tc_u p1) (tc_u p2) (tc_u p3) → P 0) : wpX_operandsFit P (nI n, said, lev, ln, pc, wt, nst, ka, fi, se, th, we, ne, tape, kept, ops, args, tasks, starts) (nI k) p1 p2 p3 := by
  by_cases k0 : k = 0
  · subst k0
    exact tc_xf0 hn p1 p2 p3 h1 h0
  by_cases k1 : k = 1
  · subst k1
    exact tc_xf1 hn p1 p2 p3 h1 h0
  by_cases k2 : k = 2
  · subst k2
    exact tc_xf2 hn p1 p2 p3 h1 h0
  by_cases k3 : k = 3
  · subst k3
    exact tc_xf3 hn p1 p2 p3 h1 h0
  by_cases k4 : k = 4
  · subst k4
    exact tc_xf4 hn p1 p2 p3 h1 h0
  by_cases k5 : k = 5
  · subst k5
    exact tc_xf5 hn p1 p2 p3 h1 h0
  by_cases k6 : k = 6
  · subst k6
    exact tc_xf6 hn p1 p2 p3 h1 h0
  by_cases k7 : k = 7
  · subst k7
    exact tc_xf7 hn p1 p2 p3 h1 h0
  by_cases k8 : k = 8
  · subst k8
    exact tc_xf8 hn p1 p2 p3 h1 h0
  by_cases k9 : k = 9
  · subst k9
    exact tc_xf9 hn p1 p2 p3 h1 h0
  by_cases k10 : k = 10
  · subst k10
    exact tc_xf10 hn p1 p2 p3 h1 h0
  by_cases k11 : k = 11
  · subst k11
    exact tc_xf11 hn p1 p2 p3 h1 h0
  by_cases k12 : k = 12
  · subst k12
    exact tc_xf12 hn p1 p2 p3 h1 h0
  by_cases k13 : k = 13
  · subst k13
    exact tc_xf13 hn p1 p2 p3 h1 h0
  omega
theorem tc_yfit (hn : n ≤ 40) (k : Nat) (hk : k < 14) (p1 p2 p3 : Int32) (h1 : tc_Fit n k (tc_u p1) (tc_u p2) (tc_u p3) → P 1) (h0 : ¬ tc_Fit n k (tc_u p1) (tc_u p2) (tc_u p3) → P 0) : wpY_fits P (nI n, hi, said, ka, fi, se, th, we, ne, vr, el, bg, tm, kept) (nI k) p1 p2 p3 := by
  by_cases k0 : k = 0
  · subst k0
    exact tc_yf0 hn p1 p2 p3 h1 h0
  by_cases k1 : k = 1
  · subst k1
    exact tc_yf1 hn p1 p2 p3 h1 h0
  by_cases k2 : k = 2
  · subst k2
    exact tc_yf2 hn p1 p2 p3 h1 h0
  by_cases k3 : k = 3
  · subst k3
    exact tc_yf3 hn p1 p2 p3 h1 h0
  by_cases k4 : k = 4
  · subst k4
    exact tc_yf4 hn p1 p2 p3 h1 h0
  by_cases k5 : k = 5
  · subst k5
    exact tc_yf5 hn p1 p2 p3 h1 h0
  by_cases k6 : k = 6
  · subst k6
    exact tc_yf6 hn p1 p2 p3 h1 h0
  by_cases k7 : k = 7
  · subst k7
    exact tc_yf7 hn p1 p2 p3 h1 h0
  by_cases k8 : k = 8
  · subst k8
    exact tc_yf8 hn p1 p2 p3 h1 h0
  by_cases k9 : k = 9
  · subst k9
    exact tc_yf9 hn p1 p2 p3 h1 h0
  by_cases k10 : k = 10
  · subst k10
    exact tc_yf10 hn p1 p2 p3 h1 h0
  by_cases k11 : k = 11
  · subst k11
    exact tc_yf11 hn p1 p2 p3 h1 h0
  by_cases k12 : k = 12
  · subst k12
    exact tc_yf12 hn p1 p2 p3 h1 h0
  by_cases k13 : k = 13
  · subst k13
    exact tc_yf13 hn p1 p2 p3 h1 h0
  omega
end
