/-! part 16: the relation, the small methods, run (made by wip/whole/gen16.py) -/
def tc_u (p : Int32) : Nat := p.toBitVec.toNat
theorem tc_u_eq (p : Int32) : p = nI (tc_u p) := (tc_nIu p).symm
theorem tc_u_nI {j : Nat} (h : j < 2 ^ 31) : tc_u (nI j) = j := pk_tn (by omega)
theorem tc_x_in {P : Int32 → Prop} (p : Int32) (b : Nat) (hb : b < 2 ^ 31) (h1 : tc_u p < b → P 1) (h0 : ¬ tc_u p < b → P 0) : (p < 0 → P 0) ∧ (¬ p < 0 → ((nI b ≤ p → P 0) ∧ (¬ nI b ≤ p → P 1))) := by
  refine br_c (fun hn => h0 ?_) (fun hn => ?_)
  · intro hu
    rw [tc_u_eq p] at hn
    exact nI_pos (by omega) hn
  · obtain ⟨j, hj, rfl⟩ := nI_of hn
    rw [tc_u_nI hj] at h1 h0
    exact pk_le b j (fun h => h0 (by omega)) (fun h => h1 h)
theorem tc_y_in {P : Int32 → Prop} (p : Int32) (b : Nat) (c : Int32) (hc : c = nI b - 1) (hb : b < 2 ^ 31) (h1 : tc_u p < b → P 1) (h0 : ¬ tc_u p < b → P 0) : (p < 0 → P 0) ∧ (¬ p < 0 → ((c < p → P 0) ∧ (¬ c < p → P 1))) := by
  subst hc
  refine br_c (fun hn => h0 ?_) (fun hn => ?_)
  · intro hu
    rw [tc_u_eq p] at hn
    exact nI_pos (by omega) hn
  · obtain ⟨j, hj, rfl⟩ := nI_of hn
    rw [tc_u_nI hj] at h1 h0
    cases b with
    | zero =>
      refine br_t ?_ (h0 (by omega))
      refine Int32.lt_of_lt_of_le (b := 0) (by decide) (nI_pos' hj)
    | succ b =>
      rw [nI_pred]
      exact pk_lt b j (fun h => h0 (by omega)) (fun h => h1 (by omega))
theorem tc_nb (r : Int32) (h : r = 0 ∨ r = 1) : narrow .boolean (.int r) = .int r := by
  rcases h with h | h
  · subst h; rfl
  · subst h; rfl
section
variable {P : Int32 → Prop} {n : Nat} {said lev ln pc wt nst hi : Int32} {ka fi se th we ne tape kept ops args tasks starts vr el bg tm : Nat → Int32}
theorem tc_xvar (p : Int32) (h1 : tc_u p < 6 → P 1) (h0 : ¬ tc_u p < 6 → P 0) : wpX_isVariable P (nI n, said, lev, ln, pc, wt, nst, ka, fi, se, th, we, ne, tape, kept, ops, args, tasks, starts) p := tc_x_in p 6 (by decide) h1 h0
theorem tc_xnum (p : Int32) (h1 : tc_u p < 16 → P 1) (h0 : ¬ tc_u p < 16 → P 0) : wpX_isNumber P (nI n, said, lev, ln, pc, wt, nst, ka, fi, se, th, we, ne, tape, kept, ops, args, tasks, starts) p := tc_x_in p 16 (by decide) h1 h0
theorem tc_xel (p : Int32) (h1 : tc_u p < 16 → P 1) (h0 : ¬ tc_u p < 16 → P 0) : wpX_isElement P (nI n, said, lev, ln, pc, wt, nst, ka, fi, se, th, we, ne, tape, kept, ops, args, tasks, starts) p := tc_x_in p 16 (by decide) h1 h0
theorem tc_xst (hn : n ≤ 40) (p : Int32) (h1 : tc_u p < n → P 1) (h0 : ¬ tc_u p < n → P 0) : wpX_isStatement P (nI n, said, lev, ln, pc, wt, nst, ka, fi, se, th, we, ne, tape, kept, ops, args, tasks, starts) p := tc_x_in p n (by omega) h1 h0
theorem tc_yvar (p : Int32) (h1 : tc_u p < 6 → P 1) (h0 : ¬ tc_u p < 6 → P 0) : wpY_isVariable P (nI n, hi, said, ka, fi, se, th, we, ne, vr, el, bg, tm, kept) p := tc_y_in (P := fun r => narrow .boolean (.int r) = .int r ∧ P r) p 6 5 (by decide) (by decide) (fun h => ⟨tc_nb _ (Or.inr rfl), h1 h⟩) (fun h => ⟨tc_nb _ (Or.inl rfl), h0 h⟩)
theorem tc_ynum (p : Int32) (h1 : tc_u p < 16 → P 1) (h0 : ¬ tc_u p < 16 → P 0) : wpY_in P (nI n, hi, said, ka, fi, se, th, we, ne, vr, el, bg, tm, kept) p 0 15 := tc_y_in p 16 15 (by decide) (by decide) h1 h0
theorem tc_yst (hn : n ≤ 40) (p : Int32) (h1 : tc_u p < n → P 1) (h0 : ¬ tc_u p < n → P 0) : wpY_isStatement P (nI n, hi, said, ka, fi, se, th, we, ne, vr, el, bg, tm, kept) p := tc_y_in (P := fun r => narrow .boolean (.int r) = .int r ∧ P r) p n _ rfl (by omega) (fun h => ⟨tc_nb _ (Or.inr rfl), h1 h⟩) (fun h => ⟨tc_nb _ (Or.inl rfl), h0 h⟩)
end
def i_Rel (k : Nat) (u : SX) (v : SY) : Prop :=
  ∃ (n : Nat) (vs es : Nat → Fin 16) (said lev ln pc wt nst hi : Int32) (ka fi se th we ne kept ops args tasks starts bg tm : Nat → Int32), n ≤ 40 ∧ (∀ s, s < n → tc_Ok (tc_N ka) (tc_N fi) (tc_N se) (tc_N th) (tc_N we) (tc_N ne) s) ∧ u = (nI n, said, lev, ln, pc, wt, nst, ka, fi, se, th, we, ne, (fun j => tc_I (tc_tp vs es (fun _ => 0) j)), kept, ops, args, tasks, starts) ∧ v = (nI n, hi, said, ka, fi, se, th, we, ne, (fun j => tc_I (vs j)), (fun j => tc_I (es j)), bg, tm, kept)
theorem i_up {k : Nat} {u : SX} {v : SY} (h : i_Rel k u v) : i_Rel (k + 5) u v := h
theorem i_vc0 : wpX_init (fun u => wpY_init (fun v => i_Rel 0 u v)) := by
  refine ⟨0, fun _ => 0, fun _ => 0, 0, 1, 0, 0, 0, 0, 0, fun _ => 0, fun _ => 0, fun _ => 0, fun _ => 0, fun _ => 0, fun _ => 0, fun _ => 0, fun _ => 0, fun _ => 0, fun _ => 0, fun _ => 0, fun _ => 0, fun _ => 0, by omega, fun s hs => absurd hs (Nat.not_lt_zero s), ?_, rfl⟩
  have : (fun j => tc_I (tc_tp (fun _ => 0) (fun _ => 0) (fun _ => 0) j)) = (fun _ => (0 : Int32)) := by
    funext j
    have : tc_tp (fun _ => 0) (fun _ => 0) (fun _ => 0) j = 0 := by
      simp only [tc_tp]
      grind
    rw [this]
    rfl
  rw [this]
  rfl
theorem i_vc_drop {k : Nat} {u : SX} {v : SY} (I : i_Rel k u v) (hk : k + 5 ≤ 2560) : wpX_drop (fun r u' => wpY_drop (fun r' v' => r' = r ∧ i_Rel (k + 5) u' v') v) u := by
  obtain ⟨n, vs, es, said, lev, ln, pc, wt, nst, hi, ka, fi, se, th, we, ne, kept, ops, args, tasks, starts, bg, tm, hn, ok, rfl, rfl⟩ := I
  exact ⟨rfl, 0, vs, es, said, lev, ln, pc, wt, nst, hi, ka, fi, se, th, we, ne, kept, ops, args, tasks, starts, bg, tm, by omega, fun s hs => absurd hs (Nat.not_lt_zero s), rfl, rfl⟩
theorem i_vc_printed {k : Nat} {u : SX} {v : SY} (I : i_Rel k u v) (hk : k + 5 ≤ 2560) : wpX_printed (fun r => wpY_printed (fun r' => r' = r ∧ i_Rel (k + 5) u v) v) u := by
  have I0 := I
  obtain ⟨n, vs, es, said, lev, ln, pc, wt, nst, hi, ka, fi, se, th, we, ne, kept, ops, args, tasks, starts, bg, tm, hn, ok, rfl, rfl⟩ := I
  exact ⟨rfl, I0⟩
theorem i_vc_weight {k : Nat} {u : SX} {v : SY} (I : i_Rel k u v) (hk : k + 5 ≤ 2560) (v1 : Int32) : wpX_weight (fun r => wpY_weight (fun r' => r' = r ∧ i_Rel (k + 5) u v) v v1) u v1 := by
  have I0 := I
  obtain ⟨n, vs, es, said, lev, ln, pc, wt, nst, hi, ka, fi, se, th, we, ne, kept, ops, args, tasks, starts, bg, tm, hn, ok, rfl, rfl⟩ := I
  delta wpX_weight wpY_weight
  refine tc_xst hn v1 (fun h => br_f (by decide) ?_) (fun h => br_t rfl (tc_yst hn v1 (fun h' => absurd h' h) (fun _ => br_t rfl ⟨rfl, I0⟩)))
  have vin : vp_in v1 40 := by rw [tc_u_eq v1]; exact vp_in_nI (by omega) (by omega)
  exact ⟨vin, tc_yst hn v1 (fun _ => br_f (by decide) ⟨vin, rfl, I0⟩) (fun h' => absurd h h')⟩
theorem i_vc_variable {k : Nat} {u : SX} {v : SY} (I : i_Rel k u v) (hk : k + 5 ≤ 2560) (v1 : Int32) : wpX_variable (fun r => wpY_variable (fun r' => r' = r ∧ i_Rel (k + 5) u v) v v1) u v1 := by
  have I0 := I
  obtain ⟨n, vs, es, said, lev, ln, pc, wt, nst, hi, ka, fi, se, th, we, ne, kept, ops, args, tasks, starts, bg, tm, hn, ok, rfl, rfl⟩ := I
  delta wpX_variable wpY_variable
  refine tc_xvar v1 (fun h => br_f (by decide) ?_) (fun h => br_t rfl (tc_yvar v1 (fun h' => absurd h' h) (fun _ => br_t rfl ⟨rfl, I0⟩)))
  have e1 : v1 = nI (tc_u v1) := tc_u_eq v1
  generalize tc_u v1 = x at *
  subst e1
  have cl : (nI x).toNatClampNeg = x := nI_clamp (by omega)
  refine ⟨vp_in_nI (by omega) (by omega), tc_yvar _ (fun _ => br_f (by decide) ⟨vp_in_nI h (by omega), ?_, I0⟩) (fun h' => absurd (by rw [tc_u_nI (by omega)]; exact h) h')⟩
  rw [cl]
  exact congrArg tc_I (tc_tp_v _ _ _ h).symm
theorem i_vc_setVariable {k : Nat} {u : SX} {v : SY} (I : i_Rel k u v) (hk : k + 5 ≤ 2560) (v1 : Int32) (v2 : Int32) : wpX_setVariable (fun r u' => wpY_setVariable (fun r' v' => r' = r ∧ i_Rel (k + 5) u' v') v v1 v2) u v1 v2 := by
  have I0 := I
  obtain ⟨n, vs, es, said, lev, ln, pc, wt, nst, hi, ka, fi, se, th, we, ne, kept, ops, args, tasks, starts, bg, tm, hn, ok, rfl, rfl⟩ := I
  delta wpX_setVariable wpY_setVariable
  refine tc_xvar v1 (fun h => br_f (by decide) ?_) (fun h => br_t rfl (tc_yvar v1 (fun h' => absurd h' h) (fun _ => br_t rfl ⟨rfl, I0⟩)))
  refine tc_xnum v2 (fun g => br_f (by decide) ?_) (fun g => br_t rfl (tc_yvar v1 (fun _ => br_f (by decide) (tc_ynum v2 (fun g' => absurd g' g) (fun _ => br_t rfl ⟨rfl, I0⟩))) (fun h' => absurd h h')))
  have ex : v1 = nI (tc_u v1) := tc_u_eq v1
  have ey : v2 = tc_I (tc_toV v2) := by rw [tc_u_eq v2]; exact tc_toV_lt g
  have cl : v1.toNatClampNeg = tc_u v1 := by rw [ex, nI_clamp (by omega), tc_u_nI (by omega)]
  have vi1 : vp_in v1 128 := by rw [ex]; exact vp_in_nI (by omega) (by omega)
  have vi2 : vp_in v1 6 := by rw [ex]; exact vp_in_nI (by omega) (by omega)
  refine ⟨vi1, nm_r (e' := fun j => tc_I (tc_tp (tc_up vs (tc_u v1) (tc_toV v2)) es (fun _ => 0) j)) ?_ (tc_yvar v1 (fun _ => br_f (by decide) (tc_ynum v2 (fun _ => br_f (by decide) ⟨vi2, nm_r (e' := fun j => tc_I (tc_up vs (tc_u v1) (tc_toV v2) j)) ?_ ⟨rfl, ?_⟩⟩) (fun g' => absurd g g'))) (fun h' => absurd h h'))⟩
  · rw [cl]
    exact (congrArg (upd _ _) ey).trans ((tc_updI _ _ _).trans (by rw [tc_tp_uv _ _ _ _ h]))
  · rw [cl]
    exact (congrArg (upd _ _) ey).trans (tc_updI _ _ _)
  · exact ⟨n, tc_up vs (tc_u v1) (tc_toV v2), es, said, lev, ln, pc, wt, nst, hi, ka, fi, se, th, we, ne, kept, ops, args, tasks, starts, bg, tm, hn, ok, rfl, rfl⟩
theorem tc_elc {i : Nat} (h : i < 16) : (17 + 4 * nI i : Int32) = nI (17 + 4 * i) := by
  rw [show (17 : Int32) = nI 17 from rfl, show (4 : Int32) = nI 4 from rfl, pk_mul, nI_add]
theorem i_vc_element {k : Nat} {u : SX} {v : SY} (I : i_Rel k u v) (hk : k + 5 ≤ 2560) (v1 : Int32) : wpX_element (fun r => wpY_element (fun r' => r' = r ∧ i_Rel (k + 5) u v) v v1) u v1 := by
  have I0 := I
  obtain ⟨n, vs, es, said, lev, ln, pc, wt, nst, hi, ka, fi, se, th, we, ne, kept, ops, args, tasks, starts, bg, tm, hn, ok, rfl, rfl⟩ := I
  delta wpX_element wpY_element
  refine tc_xel v1 (fun h => br_f (by decide) ?_) (fun h => br_t rfl (tc_ynum v1 (fun h' => absurd h' h) (fun _ => br_t rfl ⟨rfl, I0⟩)))
  have ex : v1 = nI (tc_u v1) := tc_u_eq v1
  have cl : v1.toNatClampNeg = tc_u v1 := by rw [ex, nI_clamp (by omega), tc_u_nI (by omega)]
  have e17 : 17 + 4 * v1 = nI (17 + 4 * tc_u v1) := (congrArg (fun q => 17 + 4 * q) ex).trans (tc_elc h)
  have vi2 : vp_in v1 16 := by rw [ex]; exact vp_in_nI (by omega) (by omega)
  refine ⟨by rw [e17]; exact vp_in_nI (by omega) (by omega), tc_ynum v1 (fun _ => br_f (by decide) ⟨vi2, ?_, I0⟩) (fun h' => absurd h h')⟩
  rw [e17, cl, nI_clamp (by omega)]
  exact congrArg tc_I (tc_tp_e _ _ _ h).symm
theorem i_vc_setElement {k : Nat} {u : SX} {v : SY} (I : i_Rel k u v) (hk : k + 5 ≤ 2560) (v1 : Int32) (v2 : Int32) : wpX_setElement (fun r u' => wpY_setElement (fun r' v' => r' = r ∧ i_Rel (k + 5) u' v') v v1 v2) u v1 v2 := by
  have I0 := I
  obtain ⟨n, vs, es, said, lev, ln, pc, wt, nst, hi, ka, fi, se, th, we, ne, kept, ops, args, tasks, starts, bg, tm, hn, ok, rfl, rfl⟩ := I
  delta wpX_setElement wpY_setElement
  refine tc_xel v1 (fun h => br_f (by decide) ?_) (fun h => br_t rfl (tc_ynum v1 (fun h' => absurd h' h) (fun _ => br_t rfl ⟨rfl, I0⟩)))
  refine tc_xnum v2 (fun g => br_f (by decide) ?_) (fun g => br_t rfl (tc_ynum v1 (fun _ => br_f (by decide) (tc_ynum v2 (fun g' => absurd g' g) (fun _ => br_t rfl ⟨rfl, I0⟩))) (fun h' => absurd h h')))
  have ex : v1 = nI (tc_u v1) := tc_u_eq v1
  have ey : v2 = tc_I (tc_toV v2) := by rw [tc_u_eq v2]; exact tc_toV_lt g
  have cl : v1.toNatClampNeg = tc_u v1 := by rw [ex, nI_clamp (by omega), tc_u_nI (by omega)]
  have e17 : 17 + 4 * v1 = nI (17 + 4 * tc_u v1) := (congrArg (fun q => 17 + 4 * q) ex).trans (tc_elc h)
  have vi2 : vp_in v1 16 := by rw [ex]; exact vp_in_nI (by omega) (by omega)
  refine ⟨by rw [e17]; exact vp_in_nI (by omega) (by omega), nm_r (e' := fun j => tc_I (tc_tp vs (tc_up es (tc_u v1) (tc_toV v2)) (fun _ => 0) j)) ?_ (tc_ynum v1 (fun _ => br_f (by decide) (tc_ynum v2 (fun _ => br_f (by decide) ⟨vi2, nm_r (e' := fun j => tc_I (tc_up es (tc_u v1) (tc_toV v2) j)) ?_ ⟨rfl, ?_⟩⟩) (fun g' => absurd g g'))) (fun h' => absurd h h'))⟩
  · rw [e17, nI_clamp (by omega)]
    exact (congrArg (upd _ _) ey).trans ((tc_updI _ _ _).trans (by rw [tc_tp_ue _ _ _ _ h]))
  · rw [cl]
    exact (congrArg (upd _ _) ey).trans (tc_updI _ _ _)
  · exact ⟨n, vs, tc_up es (tc_u v1) (tc_toV v2), said, lev, ln, pc, wt, nst, hi, ka, fi, se, th, we, ne, kept, ops, args, tasks, starts, bg, tm, hn, ok, rfl, rfl⟩
theorem i_vc_output {k : Nat} {u : SX} {v : SY} (I : i_Rel k u v) (hk : k + 5 ≤ 2560) (v1 : Int32) : wpX_output (fun r => wpY_output (fun r' => r' = r ∧ i_Rel (k + 5) u v) v v1) u v1 := by
  have I0 := I
  obtain ⟨n, vs, es, said, lev, ln, pc, wt, nst, hi, ka, fi, se, th, we, ne, kept, ops, args, tasks, starts, bg, tm, hn, ok, rfl, rfl⟩ := I
  delta wpX_output wpY_output wpY_in
  by_cases h0 : v1 < 0
  · exact br_t h0 (br_t h0 (br_t rfl ⟨rfl, I0⟩))
  refine br_f h0 ?_
  obtain ⟨j, hj, rfl⟩ := nI_of h0
  by_cases h4 : j < 40
  · have q1 : ¬ (40 : Int32) ≤ nI j := nI_ge (b := 40) h4 (by decide)
    have q2 : ¬ (39 : Int32) < nI j := nI_nlt (a := 39) (by omega) (by decide)
    have vin : vp_in (nI j) 40 := vp_in_nI h4 (by omega)
    refine br_f q1 ?_
    by_cases hl : nI j < said
    · exact br_t hl ⟨vin, br_f h0 (br_f q2 (br_f (by decide) (br_f (Int32.not_le.mpr hl) ⟨vin, rfl, I0⟩)))⟩
    · exact br_f hl (br_f h0 (br_f q2 (br_f (by decide) (br_t (Int32.not_lt.mp hl) ⟨rfl, I0⟩))))
  · have q1 : (40 : Int32) ≤ nI j := nI_le (a := 40) (by omega) hj
    have q2 : (39 : Int32) < nI j := nI_lt (a := 39) (by omega) hj
    exact br_t q1 (br_f h0 (br_t q2 (br_t rfl ⟨rfl, I0⟩)))
theorem i_vc_level {k : Nat} {u : SX} {v : SY} (I : i_Rel k u v) (hk : k + 5 ≤ 2560) (v1 : Int32) : wpX_level (fun r u' => wpY_level (fun r' => r' = r ∧ i_Rel (k + 5) u' v) v v1) u v1 := by
  have I0 := I
  obtain ⟨n, vs, es, said, lev, ln, pc, wt, nst, hi, ka, fi, se, th, we, ne, kept, ops, args, tasks, starts, bg, tm, hn, ok, rfl, rfl⟩ := I
  delta wpX_level wpY_level
  by_cases h0 : v1 < 0
  · have q0 : ¬ v1 = 0 := fun e => by rw [e] at h0; exact absurd h0 (by decide)
    have q1 : ¬ v1 = 1 := fun e => by rw [e] at h0; exact absurd h0 (by decide)
    exact br_t h0 (br_f q0 (br_f q1 ⟨rfl, I0⟩))
  refine br_f h0 ?_
  obtain ⟨j, hj, rfl⟩ := nI_of h0
  have R : i_Rel (k + 5) (nI n, said, nI j, ln, pc, wt, nst, ka, fi, se, th, we, ne, (fun j => tc_I (tc_tp vs es (fun _ => 0) j)), kept, ops, args, tasks, starts) (nI n, hi, said, ka, fi, se, th, we, ne, (fun j => tc_I (vs j)), (fun j => tc_I (es j)), bg, tm, kept) := ⟨n, vs, es, said, nI j, ln, pc, wt, nst, hi, ka, fi, se, th, we, ne, kept, ops, args, tasks, starts, bg, tm, hn, ok, rfl, rfl⟩
  by_cases j0 : j = 0
  · subst j0
    exact br_t (by decide) (br_t rfl ⟨rfl, R⟩)
  by_cases j1 : j = 1
  · subst j1
    exact br_t (by decide) (br_f (by decide) (br_t rfl ⟨rfl, R⟩))
  have q0 : ¬ nI j = 0 := nI_ne0 (by omega) hj
  have q1 : ¬ nI j = 1 := fun e => j1 ((nI_eq hj (by decide)).mp (show nI j = nI 1 from e))
  exact br_f (nI_ge (a := 1) (by omega) hj) (br_f q0 (br_f q1 ⟨rfl, I0⟩))
theorem i_vc_run {k : Nat} {u : SX} {v : SY} (I : i_Rel k u v) (hk : k + 5 ≤ 2560) (v1 : Int32) : wpX_run (fun r u' => wpY_run (fun r' v' => r' = r ∧ i_Rel (k + 5) u' v') v v1) u v1 := by
  have I0 := I
  obtain ⟨n, vs, es, said, lev, ln, pc, wt, nst, hi, ka, fi, se, th, we, ne, kept, ops, args, tasks, starts, bg, tm, hn, ok, rfl, rfl⟩ := I
  by_cases h : tc_u v1 < n
  · have ex : v1 = nI (tc_u v1) := tc_u_eq v1
    generalize tc_u v1 = s at *
    subst ex
    refine tc_xrun hn h ok _ rfl ?_
    intro ln' pc' wt' nst' ops' args' tasks' starts'
    refine tc_yrun hn h ok _ rfl ?_
    intro hi' bg' tm'
    exact ⟨rfl, n, _, _, _, lev, ln', pc', wt', nst', hi', ka, fi, se, th, we, ne, _, ops', args', tasks', starts', bg', tm', hn, ok, rfl, rfl⟩
  · delta wpX_run wpY_run
    exact tc_xst hn v1 (fun h' => absurd h' h) (fun _ => br_t rfl (tc_yst hn v1 (fun h' => absurd h' h) (fun _ => br_t rfl ⟨rfl, I0⟩)))
