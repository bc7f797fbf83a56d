/-! part 18: stating, the end (made by wip/whole/gen18.py) -/
theorem tc_clu {p : Int32} (h : tc_u p < 2 ^ 31) : p.toNatClampNeg = tc_u p := by
  have e := tc_u_eq p
  generalize tc_u p = j at *
  subst e
  exact nI_clamp h
theorem tc_vin {p : Int32} {b : Nat} (h : tc_u p < b) (hb : b < 2 ^ 31) : vp_in p b := by
  rw [tc_u_eq p]
  exact vp_in_nI h hb
section
variable {n : Nat} {said lev ln pc wt nst hi : Int32} {ka fi se th we ne tape kept ops args tasks starts vr el bg tm : Nat → Int32}
theorem tc_s1 (N : Nat) (w : Int32) (h : w = nI N) : 1 + w = nI (1 + N) := by
  rw [h, show (1 : Int32) = nI 1 from rfl, nI_add]
theorem tc_s2 (M N : Nat) (v w : Int32) (g : v = nI M) (h : w = nI N) : 1 + v + w = nI (1 + M + N) := by
  rw [tc_s1 M v g, h, nI_add]
theorem tc_s3 (M N : Nat) (v w : Int32) (g : v = nI M) (h : w = nI N) : 1 + (v + w) = nI (1 + M + N) := by
  rw [← Int32.add_assoc, tc_s2 M N v w g h]
theorem tc_at {a : Nat → Int32} {p : Int32} (h : tc_u p < 40) : a p.toNatClampNeg = nI (tc_N a (tc_u p)) := by
  rw [tc_clu (by omega)]
  exact tc_N_eq a _
theorem tc_xw {P : Int32 → Prop} (hn : n ≤ 40) (k : Nat) (hk : k < 14) (p1 p2 p3 : Int32) (F : tc_Fit n k (tc_u p1) (tc_u p2) (tc_u p3)) (h : P (nI (tc_w (tc_N we) k (tc_u p1) (tc_u p2) (tc_u p3)))) : wpX_weightOf P (nI n, said, lev, ln, pc, wt, nst, ka, fi, se, th, we, ne, tape, kept, ops, args, tasks, starts) (nI k) p1 p2 p3 := by
  delta wpX_weightOf
  by_cases k10 : k = 10
  · subst k10
    have F : tc_u p1 < n ∧ tc_u p2 < n := F
    exact br_f (by decide) (br_f (by decide) (br_t rfl ⟨tc_vin (by omega) (by omega), tc_vin (by omega) (by omega), by rw [tc_s2 _ _ _ _ (tc_at (by omega)) (tc_at (by omega))]; exact h⟩))
  by_cases k11 : k = 11
  · subst k11
    have F : tc_u p1 < 6 ∧ tc_u p2 < n ∧ tc_u p3 < n := F
    exact br_f (by decide) (br_f (by decide) (br_f (by decide) (br_t rfl ⟨tc_vin (by omega) (by omega), tc_vin (by omega) (by omega), by rw [tc_s2 _ _ _ _ (tc_at (by omega)) (tc_at (by omega))]; exact h⟩)))
  by_cases k12 : k = 12
  · subst k12
    have F : tc_u p1 < 6 ∧ tc_u p2 < n := F
    exact br_f (by decide) (br_f (by decide) (br_f (by decide) (br_f (by decide) (br_t rfl ⟨tc_vin (by omega) (by omega), by rw [tc_s1 _ _ (tc_at (by omega))]; exact h⟩))))
  unfold tc_w at h
  rw [if_neg k10, if_neg k11, if_neg k12] at h
  by_cases k9 : k < 10
  · exact br_t (nI_lt (b := 10) k9 (by decide)) h
  · have : k = 13 := by omega
    subst this
    exact br_f (by decide) (br_t (by decide) h)
theorem tc_xgr {P : Int32 → Prop} {v w : Int32} (a b : Nat) (hv : v = nI a) (hw : w = nI b) (ha : a < 100) (hb : b < 100) (h : P (nI (tc_mx a b))) : wpX_greater P (nI n, said, lev, ln, pc, wt, nst, ka, fi, se, th, we, ne, tape, kept, ops, args, tasks, starts) v w := by
  subst hv hw
  unfold tc_mx at h
  exact pk_le a b (fun c => by rw [if_pos c] at h; exact h) (fun c => by rw [if_neg (by omega)] at h; exact h)
theorem tc_ygr {P : Int32 → Prop} {v w : Int32} (a b : Nat) (hv : v = nI a) (hw : w = nI b) (ha : a < 100) (hb : b < 100) (h : P (nI (tc_mx a b))) : wpY_greater P (nI n, hi, said, ka, fi, se, th, we, ne, vr, el, bg, tm, kept) v w := by
  subst hv hw
  unfold tc_mx at h
  exact pk_le a b (fun c => by rw [if_pos c] at h; exact h) (fun c => by rw [if_neg (by omega)] at h; exact h)
theorem tc_xd {P : Int32 → Prop} (hn : n ≤ 40) (nb : ∀ s, s < n → tc_N ne s ≤ 2) (k : Nat) (hk : k < 14) (p1 p2 p3 : Int32) (F : tc_Fit n k (tc_u p1) (tc_u p2) (tc_u p3)) (h : P (nI (tc_d (tc_N ne) k (tc_u p1) (tc_u p2) (tc_u p3)))) : wpX_nestingOf P (nI n, said, lev, ln, pc, wt, nst, ka, fi, se, th, we, ne, tape, kept, ops, args, tasks, starts) (nI k) p1 p2 p3 := by
  delta wpX_nestingOf
  by_cases k10 : k = 10
  · subst k10
    have F : tc_u p1 < n ∧ tc_u p2 < n := F
    have b1 := nb _ F.1
    have b2 := nb _ F.2
    exact br_f (by decide) (br_f (by decide) (br_t rfl ⟨tc_vin (by omega) (by omega), tc_vin (by omega) (by omega), tc_xgr _ _ (tc_at (by omega)) (tc_at (by omega)) (by omega) (by omega) h⟩))
  by_cases k11 : k = 11
  · subst k11
    have F : tc_u p1 < 6 ∧ tc_u p2 < n ∧ tc_u p3 < n := F
    have b1 := nb _ F.2.1
    have b2 := nb _ F.2.2
    exact br_f (by decide) (br_f (by decide) (br_f (by decide) (br_t rfl ⟨tc_vin (by omega) (by omega), tc_vin (by omega) (by omega), tc_xgr _ _ (tc_at (by omega)) (tc_at (by omega)) (by omega) (by omega) (by rw [tc_s1 _ _ rfl]; exact h)⟩)))
  by_cases k12 : k = 12
  · subst k12
    have F : tc_u p1 < 6 ∧ tc_u p2 < n := F
    exact br_f (by decide) (br_f (by decide) (br_f (by decide) (br_f (by decide) (br_t rfl ⟨tc_vin (by omega) (by omega), by rw [tc_s1 _ _ (tc_at (by omega))]; exact h⟩))))
  unfold tc_d at h
  rw [if_neg k10, if_neg k11, if_neg k12] at h
  by_cases k9 : k < 10
  · exact br_t (nI_lt (b := 10) k9 (by decide)) h
  · have : k = 13 := by omega
    subst this
    exact br_f (by decide) (br_t (by decide) h)
theorem tc_xA {post : Int32 → SX → Prop} (p0 p1 p2 p3 : Int32) (e : n = 40) (h : post (-2) (nI n, said, lev, ln, pc, wt, nst, ka, fi, se, th, we, ne, tape, kept, ops, args, tasks, starts)) : wpX_state post (nI n, said, lev, ln, pc, wt, nst, ka, fi, se, th, we, ne, tape, kept, ops, args, tasks, starts) p0 p1 p2 p3 := by
  subst e
  exact br_f (by decide) h
theorem tc_yA {post : Int32 → SY → Prop} (p0 p1 p2 p3 : Int32) (e : n = 40) (h : post (-2) (nI n, hi, said, ka, fi, se, th, we, ne, vr, el, bg, tm, kept)) : wpY_state post (nI n, hi, said, ka, fi, se, th, we, ne, vr, el, bg, tm, kept) p0 p1 p2 p3 := by
  subst e
  exact br_t rfl h
theorem tc_k14 (p0 : Int32) (h : ¬ tc_u p0 < 14) : p0 < 0 ∨ (¬ p0 < 0 ∧ 13 < p0) := by
  by_cases h0 : p0 < 0
  · exact Or.inl h0
  · refine Or.inr ⟨h0, ?_⟩
    obtain ⟨j, hj, rfl⟩ := nI_of h0
    rw [tc_u_nI hj] at h
    exact nI_lt (a := 13) (by omega) hj
theorem tc_xB {post : Int32 → SX → Prop} (p0 p1 p2 p3 : Int32) (hn : n < 40) (e : ¬ tc_u p0 < 14) (h : post (-1) (nI n, said, lev, ln, pc, wt, nst, ka, fi, se, th, we, ne, tape, kept, ops, args, tasks, starts)) : wpX_state post (nI n, said, lev, ln, pc, wt, nst, ka, fi, se, th, we, ne, tape, kept, ops, args, tasks, starts) p0 p1 p2 p3 := by
  delta wpX_state
  refine br_t (nI_lt (b := 40) hn (by decide)) ?_
  delta wpX_operandsFit
  rcases tc_k14 p0 e with q | q
  · exact br_t q (br_t rfl h)
  · exact br_f q.1 (br_t q.2 (br_t rfl h))
theorem tc_n40 (hn : n < 40) : ¬ nI n = 40 := fun e => absurd ((nI_eq (by omega) (by decide)).mp (show nI n = nI 40 from e)) (by omega)
theorem tc_yB {post : Int32 → SY → Prop} (p0 p1 p2 p3 : Int32) (hn : n < 40) (e : ¬ tc_u p0 < 14) (h : post (-1) (nI n, hi, said, ka, fi, se, th, we, ne, vr, el, bg, tm, kept)) : wpY_state post (nI n, hi, said, ka, fi, se, th, we, ne, vr, el, bg, tm, kept) p0 p1 p2 p3 := by
  delta wpY_state
  refine br_f (tc_n40 hn) ?_
  delta wpY_in
  rcases tc_k14 p0 e with q | q
  · exact br_t q (br_t rfl h)
  · exact br_f q.1 (br_t q.2 (br_t rfl h))
theorem tc_xC {post : Int32 → SX → Prop} (k : Nat) (p1 p2 p3 : Int32) (hn : n < 40) (hk : k < 14) (F : ¬ tc_Fit n k (tc_u p1) (tc_u p2) (tc_u p3)) (h : post (-1) (nI n, said, lev, ln, pc, wt, nst, ka, fi, se, th, we, ne, tape, kept, ops, args, tasks, starts)) : wpX_state post (nI n, said, lev, ln, pc, wt, nst, ka, fi, se, th, we, ne, tape, kept, ops, args, tasks, starts) (nI k) p1 p2 p3 := by
  delta wpX_state
  exact br_t (nI_lt (b := 40) hn (by decide)) (tc_xfit (by omega) k hk p1 p2 p3 (fun f => absurd f F) (fun _ => br_t rfl h))
theorem tc_yk (P : Int32 → Prop) (k : Nat) (hk : k < 14) (h : P 1) : wpY_in P (nI n, hi, said, ka, fi, se, th, we, ne, vr, el, bg, tm, kept) (nI k) 0 13 := tc_y_in (nI k) 14 13 (by decide) (by decide) (fun _ => h) (fun c => absurd (by rw [tc_u_nI (by omega)]; exact hk) c)
theorem tc_yC {post : Int32 → SY → Prop} (k : Nat) (p1 p2 p3 : Int32) (hn : n < 40) (hk : k < 14) (F : ¬ tc_Fit n k (tc_u p1) (tc_u p2) (tc_u p3)) (h : post (-1) (nI n, hi, said, ka, fi, se, th, we, ne, vr, el, bg, tm, kept)) : wpY_state post (nI n, hi, said, ka, fi, se, th, we, ne, vr, el, bg, tm, kept) (nI k) p1 p2 p3 := by
  delta wpY_state
  exact br_f (tc_n40 hn) (tc_yk _ k hk (br_f (by decide) (tc_yfit (by omega) k hk p1 p2 p3 (fun f => absurd f F) (fun _ => br_t rfl h))))
theorem tc_xD {post : Int32 → SX → Prop} (k : Nat) (p1 p2 p3 : Int32) (hn : n < 40) (nb : ∀ s, s < n → tc_N ne s ≤ 2) (hk : k < 14) (F : tc_Fit n k (tc_u p1) (tc_u p2) (tc_u p3)) (w d : Nat) (hw : w = tc_w (tc_N we) k (tc_u p1) (tc_u p2) (tc_u p3)) (hd : d = tc_d (tc_N ne) k (tc_u p1) (tc_u p2) (tc_u p3)) (w1 : w < 100) (d1 : d < 100) (hwd : 12 < w ∨ 2 < d) (h : post (-2) (nI n, said, lev, ln, pc, wt, nst, ka, fi, se, th, we, ne, tape, kept, ops, args, tasks, starts)) : wpX_state post (nI n, said, lev, ln, pc, wt, nst, ka, fi, se, th, we, ne, tape, kept, ops, args, tasks, starts) (nI k) p1 p2 p3 := by
  delta wpX_state
  refine br_t (nI_lt (b := 40) hn (by decide)) (tc_xfit (by omega) k hk p1 p2 p3 (fun _ => br_f (by decide) (tc_xw (by omega) k hk p1 p2 p3 F (tc_xd (by omega) nb k hk p1 p2 p3 F ?_))) (fun c => absurd F c))
  rw [← hw, ← hd]
  exact pk_lt 12 w (fun _ => h) (fun c => br_f (nI_ge (a := 2) (by omega) (by omega)) h)
theorem tc_y158 {post : Int32 → SY → Prop} (k : Nat) (p1 p2 p3 : Int32) (hn : n ≤ 40) (wb : ∀ s, s < n → tc_N ne s ≤ 2) (hk : k < 14) (F : tc_Fit n k (tc_u p1) (tc_u p2) (tc_u p3)) (w d : Nat) (hw : w = tc_w (tc_N we) k (tc_u p1) (tc_u p2) (tc_u p3)) (hd : d = tc_d (tc_N ne) k (tc_u p1) (tc_u p2) (tc_u p3)) (h40 : n < 40) (h : wY_state_158 post (nI k) p1 p2 p3 (nI w) (nI d) (nI n) (hi) (said) (ka) (fi) (se) (th) (we) (ne) (vr) (el) (bg) (tm) (kept)) : wpY_state post (nI n, hi, said, ka, fi, se, th, we, ne, vr, el, bg, tm, kept) (nI k) p1 p2 p3 := by
  delta wpY_state
  refine br_f (tc_n40 h40) (tc_yk _ k hk (br_f (by decide) (tc_yfit (by omega) k hk p1 p2 p3 (fun _ => br_f (by decide) ?_) (fun c => absurd F c))))
  subst hw hd
  by_cases k10 : k = 10
  · subst k10
    have F : tc_u p1 < n ∧ tc_u p2 < n := F
    have b1 := wb _ F.1
    have b2 := wb _ F.2
    have v1 : vp_in p1 40 := tc_vin (by omega) (by omega)
    have v2 : vp_in p2 40 := tc_vin (by omega) (by omega)
    refine br_t rfl ⟨v1, v2, nm_r (tc_s3 _ _ _ _ (tc_at (by omega)) (tc_at (by omega))) ⟨v1, v2, tc_ygr _ _ (tc_at (by omega)) (tc_at (by omega)) (by omega) (by omega) ?_⟩⟩
    delta wY_state_85
    refine br_f (by decide) ?_
    delta wY_state_131
    exact br_f (by decide) h
  refine br_f (tc_ne (c := 10) (by omega) (by decide) k10) ?_
  delta wY_state_85
  by_cases k11 : k = 11
  · subst k11
    have F : tc_u p1 < 6 ∧ tc_u p2 < n ∧ tc_u p3 < n := F
    have b1 := wb _ F.2.1
    have b2 := wb _ F.2.2
    have v1 : vp_in p2 40 := tc_vin (by omega) (by omega)
    have v2 : vp_in p3 40 := tc_vin (by omega) (by omega)
    refine br_t rfl ⟨v1, v2, nm_r (tc_s3 _ _ _ _ (tc_at (by omega)) (tc_at (by omega))) ⟨v1, v2, tc_ygr _ _ (tc_at (by omega)) (tc_at (by omega)) (by omega) (by omega) (nm_r (tc_s1 _ _ rfl) ?_)⟩⟩
    delta wY_state_131
    exact br_f (by decide) h
  refine br_f (tc_ne (c := 11) (by omega) (by decide) k11) ?_
  delta wY_state_131
  by_cases k12 : k = 12
  · subst k12
    have F : tc_u p1 < 6 ∧ tc_u p2 < n := F
    have v1 : vp_in p2 40 := tc_vin (by omega) (by omega)
    exact br_t rfl ⟨v1, nm_r (tc_s1 _ _ (tc_at (by omega))) ⟨v1, nm_r (tc_s1 _ _ (tc_at (by omega))) h⟩⟩
  refine br_f (tc_ne (c := 12) (by omega) (by decide) k12) ?_
  unfold tc_w tc_d at h
  rw [if_neg k10, if_neg k11, if_neg k12, if_neg k10, if_neg k11, if_neg k12] at h
  exact h
theorem tc_yD {post : Int32 → SY → Prop} (k : Nat) (p1 p2 p3 : Int32) (hn : n < 40) (nb : ∀ s, s < n → tc_N ne s ≤ 2) (hk : k < 14) (F : tc_Fit n k (tc_u p1) (tc_u p2) (tc_u p3)) (w d : Nat) (hw : w = tc_w (tc_N we) k (tc_u p1) (tc_u p2) (tc_u p3)) (hd : d = tc_d (tc_N ne) k (tc_u p1) (tc_u p2) (tc_u p3)) (w1 : w < 100) (d1 : d < 100) (hwd : 12 < w ∨ 2 < d) (h : post (-2) (nI n, hi, said, ka, fi, se, th, we, ne, vr, el, bg, tm, kept)) : wpY_state post (nI n, hi, said, ka, fi, se, th, we, ne, vr, el, bg, tm, kept) (nI k) p1 p2 p3 := by
  refine tc_y158 k p1 p2 p3 (by omega) nb hk F w d hw hd hn ?_
  delta wY_state_158
  exact pk_lt 12 w (fun _ => h) (fun c => br_f (nI_ge (a := 2) (by omega) (by omega)) h)
theorem tc_xE {post : Int32 → SX → Prop} (k : Nat) (p0 p1 p2 p3 : Int32) (e0 : p0 = nI k) (hn : n < 40) (nb : ∀ s, s < n → tc_N ne s ≤ 2) (hk : k < 14) (F : tc_Fit n k (tc_u p1) (tc_u p2) (tc_u p3)) (w d : Nat) (hw : w = tc_w (tc_N we) k (tc_u p1) (tc_u p2) (tc_u p3)) (hd : d = tc_d (tc_N ne) k (tc_u p1) (tc_u p2) (tc_u p3)) (w1 : w ≤ 12) (d1 : d ≤ 2) (h : post (nI n) (nI (n + 1), said, lev, ln, pc, wt, nst, upd ka n p0, upd fi n p1, upd se n p2, upd th n p3, upd we n (nI w), upd ne n (nI d), tape, kept, ops, args, tasks, starts)) : wpX_state post (nI n, said, lev, ln, pc, wt, nst, ka, fi, se, th, we, ne, tape, kept, ops, args, tasks, starts) p0 p1 p2 p3 := by
  subst e0
  have cl : (nI n).toNatClampNeg = n := nI_clamp (by omega)
  have vin : vp_in (nI n) 40 := vp_in_nI hn (by omega)
  delta wpX_state
  refine br_t (nI_lt (b := 40) hn (by decide)) (tc_xfit (by omega) k hk p1 p2 p3 (fun _ => br_f (by decide) (tc_xw (by omega) k hk p1 p2 p3 F (tc_xd (by omega) nb k hk p1 p2 p3 F ?_))) (fun c => absurd F c))
  rw [← hw, ← hd]
  refine br_f (nI_nlt (a := 12) (by omega) (by omega)) (br_t (nI_le (b := 2) (by omega) (by decide)) ?_)
  rw [cl]
  exact ⟨vin, nm_e ⟨vin, nm_e ⟨vin, nm_e ⟨vin, nm_e ⟨vin, nm_e ⟨vin, nm_e (nm_r (nI_1 n) h)⟩⟩⟩⟩⟩⟩
theorem tc_yE {post : Int32 → SY → Prop} (k : Nat) (p0 p1 p2 p3 : Int32) (e0 : p0 = nI k) (hn : n < 40) (nb : ∀ s, s < n → tc_N ne s ≤ 2) (hk : k < 14) (F : tc_Fit n k (tc_u p1) (tc_u p2) (tc_u p3)) (w d : Nat) (hw : w = tc_w (tc_N we) k (tc_u p1) (tc_u p2) (tc_u p3)) (hd : d = tc_d (tc_N ne) k (tc_u p1) (tc_u p2) (tc_u p3)) (w1 : w ≤ 12) (d1 : d ≤ 2) (h : post (nI n) (nI (n + 1), hi, said, upd ka n p0, upd fi n p1, upd se n p2, upd th n p3, upd we n (nI w), upd ne n (nI d), vr, el, bg, tm, kept)) : wpY_state post (nI n, hi, said, ka, fi, se, th, we, ne, vr, el, bg, tm, kept) p0 p1 p2 p3 := by
  subst e0
  have cl : (nI n).toNatClampNeg = n := nI_clamp (by omega)
  have vin : vp_in (nI n) 40 := vp_in_nI hn (by omega)
  refine tc_y158 k p1 p2 p3 (by omega) nb hk F w d hw hd hn ?_
  delta wY_state_158
  refine br_f (nI_nlt (a := 12) (by omega) (by omega)) (br_t (nI_le (b := 2) (by omega) (by decide)) ?_)
  rw [cl]
  exact ⟨vin, nm_e ⟨vin, nm_e ⟨vin, nm_e ⟨vin, nm_e ⟨vin, nm_e ⟨vin, nm_e (nm_r (nI_1 n) (by rw [nI_pred]; exact h))⟩⟩⟩⟩⟩⟩
end
theorem tc_N_o (a : Nat → Int32) (n : Nat) (p : Int32) {s : Nat} (h : s ≠ n) : tc_N (upd a n p) s = tc_N a s := by
  unfold tc_N
  rw [pk_un h]
theorem tc_N_s (a : Nat → Int32) (n : Nat) (p : Int32) : tc_N (upd a n p) n = tc_u p := by
  unfold tc_N tc_u
  rw [pk_us]
theorem tc_Ok_congr {K X Y Z W N K' X' Y' Z' W' N' : Nat → Nat} {s : Nat} (h : ∀ j, j ≤ s → K' j = K j ∧ X' j = X j ∧ Y' j = Y j ∧ Z' j = Z j ∧ W' j = W j ∧ N' j = N j) (o : tc_Ok K X Y Z W N s) : tc_Ok K' X' Y' Z' W' N' s := by
  obtain ⟨e1, e2, e3, e4, e5, e6⟩ := h s (Nat.le_refl _)
  obtain ⟨o1, o2, o3, o4, o10, o11, o12, ox, oy0, oy, oz⟩ := o
  unfold tc_Ok
  rw [e1, e2, e3, e4, e5, e6]
  refine ⟨o1, o2, o3, o4, fun k => ?_, fun k => ?_, fun k => ?_, ox, oy0, oy, oz⟩
  · obtain ⟨q1, q2, q3, q4, q5⟩ := o10 k
    obtain ⟨a1, a2, a3, a4, a5, a6⟩ := h (X s) (by omega)
    obtain ⟨b1, b2, b3, b4, b5, b6⟩ := h (Y s) (by omega)
    rw [a5, a6, b5, b6]
    exact ⟨q1, q2, q3, q4, q5⟩
  · obtain ⟨q1, q2, q3, q4, q5⟩ := o11 k
    obtain ⟨a1, a2, a3, a4, a5, a6⟩ := h (Y s) (by omega)
    obtain ⟨b1, b2, b3, b4, b5, b6⟩ := h (Z s) (by omega)
    rw [a5, a6, b5, b6]
    exact ⟨q1, q2, q3, q4, q5⟩
  · obtain ⟨q1, q2, q3⟩ := o12 k
    obtain ⟨a1, a2, a3, a4, a5, a6⟩ := h (Y s) (by omega)
    rw [a5, a6]
    exact ⟨q1, q2, q3⟩
/-- the table with the new row -/
theorem tc_newok {n : Nat} {ka fi se th we ne : Nat → Int32} (k : Nat) (p1 p2 p3 : Int32) (hn : n < 40) (ok : ∀ s, s < n → tc_Ok (tc_N ka) (tc_N fi) (tc_N se) (tc_N th) (tc_N we) (tc_N ne) s) (hk : k < 14) (F : tc_Fit n k (tc_u p1) (tc_u p2) (tc_u p3)) (w d : Nat) (hw : w = tc_w (tc_N we) k (tc_u p1) (tc_u p2) (tc_u p3)) (hd : d = tc_d (tc_N ne) k (tc_u p1) (tc_u p2) (tc_u p3)) (w1 : w ≤ 12) (d1 : d ≤ 2) :
    ∀ s, s < n + 1 → tc_Ok (tc_N (upd ka n (nI k))) (tc_N (upd fi n p1)) (tc_N (upd se n p2)) (tc_N (upd th n p3)) (tc_N (upd we n (nI w))) (tc_N (upd ne n (nI d))) s := by
  intro s hs
  by_cases e : s = n
  · subst e
    unfold tc_Ok
    rw [tc_N_s, tc_N_s, tc_N_s, tc_N_s, tc_N_s, tc_N_s, tc_u_nI (by omega), tc_u_nI (by omega), tc_u_nI (by omega)]
    have wpos : 1 ≤ w := by
      rw [hw]
      unfold tc_w
      repeat' split
      all_goals omega
    refine ⟨by omega, wpos, w1, d1, fun k10 => ?_, fun k11 => ?_, fun k12 => ?_, ?_⟩
    · subst k10
      have F : tc_u p1 < s ∧ tc_u p2 < s := F
      have hd' : d = tc_mx (tc_N ne (tc_u p1)) (tc_N ne (tc_u p2)) := hd
      rw [tc_N_o _ _ _ (by omega), tc_N_o _ _ _ (by omega), tc_N_o _ _ _ (by omega), tc_N_o _ _ _ (by omega)]
      exact ⟨F.1, F.2, hw, by rw [hd']; exact tc_mx_l _ _, by rw [hd']; exact tc_mx_r _ _⟩
    · subst k11
      have F : tc_u p1 < 6 ∧ tc_u p2 < s ∧ tc_u p3 < s := F
      have hd' : d = 1 + tc_mx (tc_N ne (tc_u p2)) (tc_N ne (tc_u p3)) := hd
      have m1 := tc_mx_l (tc_N ne (tc_u p2)) (tc_N ne (tc_u p3))
      have m2 := tc_mx_r (tc_N ne (tc_u p2)) (tc_N ne (tc_u p3))
      rw [tc_N_o _ _ _ (by omega), tc_N_o _ _ _ (by omega), tc_N_o _ _ _ (by omega), tc_N_o _ _ _ (by omega)]
      exact ⟨F.2.1, F.2.2, hw, by omega, by omega⟩
    · subst k12
      have F : tc_u p1 < 6 ∧ tc_u p2 < s := F
      have hd' : d = 1 + tc_N ne (tc_u p2) := hd
      rw [tc_N_o _ _ _ (by omega), tc_N_o _ _ _ (by omega)]
      exact ⟨F.2, hw, by omega⟩
    · unfold tc_Fit at F
      repeat' split at F
      all_goals omega
  · exact tc_Ok_congr (fun j hj => ⟨tc_N_o _ _ _ (by omega), tc_N_o _ _ _ (by omega), tc_N_o _ _ _ (by omega), tc_N_o _ _ _ (by omega), tc_N_o _ _ _ (by omega), tc_N_o _ _ _ (by omega)⟩) (ok s (by omega))
theorem tc_wd100 {n k a b c w d : Nat} {W N : Nat → Nat} (nb : ∀ s, s < n → N s ≤ 2) (wb : ∀ s, s < n → W s ≤ 12) (F : tc_Fit n k a b c) (hw : w = tc_w W k a b c) (hd : d = tc_d N k a b c) : w < 100 ∧ d < 100 := by
  by_cases k10 : k = 10
  · subst k10
    have F : a < n ∧ b < n := F
    have hw : w = 1 + W a + W b := hw
    have hd : d = tc_mx (N a) (N b) := hd
    have a1 := nb _ F.1
    have a2 := nb _ F.2
    have a3 := wb _ F.1
    have a4 := wb _ F.2
    have := tc_mx_u (N a) (N b) 2 a1 a2
    omega
  by_cases k11 : k = 11
  · subst k11
    have F : a < 6 ∧ b < n ∧ c < n := F
    have hw : w = 1 + W b + W c := hw
    have hd : d = 1 + tc_mx (N b) (N c) := hd
    have a1 := nb _ F.2.1
    have a2 := nb _ F.2.2
    have a3 := wb _ F.2.1
    have a4 := wb _ F.2.2
    have := tc_mx_u (N b) (N c) 2 a1 a2
    omega
  by_cases k12 : k = 12
  · subst k12
    have F : a < 6 ∧ b < n := F
    have hw : w = 1 + W b := hw
    have hd : d = 1 + N b := hd
    have a1 := nb _ F.2
    have a3 := wb _ F.2
    omega
  unfold tc_w at hw
  unfold tc_d at hd
  rw [if_neg k10, if_neg k11, if_neg k12] at hw hd
  omega
theorem i_vc_state {k : Nat} {u : SX} {v : SY} (I : i_Rel k u v) (hk : k + 5 ≤ 2560) (v1 : Int32) (v2 : Int32) (v3 : Int32) (v4 : Int32) : wpX_state (fun r u' => wpY_state (fun r' v' => r' = r ∧ i_Rel (k + 5) u' v') v v1 v2 v3 v4) u v1 v2 v3 v4 := by
  have I0 := I
  obtain ⟨n, vs, es, said, lev, ln, pc, wt, nst, hi, ka, fi, se, th, we, ne, kept, ops, args, tasks, starts, bg, tm, hn, ok, rfl, rfl⟩ := I
  by_cases h40 : n = 40
  · exact tc_xA _ _ _ _ h40 (tc_yA _ _ _ _ h40 ⟨rfl, I0⟩)
  have h40 : n < 40 := by omega
  by_cases h14 : tc_u v1 < 14
  · obtain ⟨q, hq, e1⟩ : ∃ q, q < 14 ∧ v1 = nI q := ⟨tc_u v1, h14, tc_u_eq v1⟩
    by_cases F : tc_Fit n q (tc_u v2) (tc_u v3) (tc_u v4)
    · obtain ⟨w, hw⟩ : ∃ w, w = tc_w (tc_N we) q (tc_u v2) (tc_u v3) (tc_u v4) := ⟨_, rfl⟩
      obtain ⟨d, hd⟩ : ∃ d, d = tc_d (tc_N ne) q (tc_u v2) (tc_u v3) (tc_u v4) := ⟨_, rfl⟩
      have nb : ∀ s, s < n → tc_N ne s ≤ 2 := fun s hs => (ok s hs).2.2.2.1
      have wb : ∀ s, s < n → tc_N we s ≤ 12 := fun s hs => (ok s hs).2.2.1
      have hw100 : w < 100 ∧ d < 100 := tc_wd100 nb wb F hw hd
      by_cases hwd : 12 < w ∨ 2 < d
      · subst e1
        exact tc_xD q _ _ _ h40 nb hq F w d hw hd hw100.1 hw100.2 hwd (tc_yD q _ _ _ h40 nb hq F w d hw hd hw100.1 hw100.2 hwd ⟨rfl, I0⟩)
      · refine tc_xE q _ _ _ _ e1 h40 nb hq F w d hw hd (by omega) (by omega) (tc_yE q _ _ _ _ e1 h40 nb hq F w d hw hd (by omega) (by omega) ⟨rfl, ?_⟩)
        subst e1
        exact ⟨n + 1, vs, es, said, lev, ln, pc, wt, nst, hi, _, _, _, _, _, _, kept, ops, args, tasks, starts, bg, tm, by omega, tc_newok q v2 v3 v4 h40 ok hq F w d hw hd (by omega) (by omega), rfl, rfl⟩
    · subst e1
      exact tc_xC q _ _ _ h40 hq F (tc_yC q _ _ _ h40 hq F ⟨rfl, I0⟩)
  · exact tc_xB _ _ _ _ h40 h14 (tc_yB _ _ _ _ h40 h14 ⟨rfl, I0⟩)
