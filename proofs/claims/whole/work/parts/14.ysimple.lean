/-! part 14: the reference's simple statements (made by wip/whole/gen14.py) -/
theorem tc_I_le (a b : Fin 16) : tc_I a ≤ tc_I b ↔ ¬ b < a := by
  show nI a.val ≤ nI b.val ↔ _
  rw [nI_leI (by omega) (by omega)]
  show a.val ≤ b.val ↔ ¬ b.val < a.val
  omega
theorem tc_I_eq (a b : Fin 16) : tc_I a = tc_I b ↔ a = b := by
  constructor
  · intro h
    have := congrArg tc_toV h
    rw [tc_I_toV, tc_I_toV] at this
    exact this
  · intro h
    rw [h]
theorem tc_I_div (a b : Fin 16) (h : b ≠ 0) : tc_I a / tc_I b = tc_I (a / b) := by
  have h0 : 0 < b.val := by
    rcases Nat.eq_zero_or_pos b.val with z | z
    · exact absurd (Fin.eq_of_val_eq z) h
    · exact z
  exact pk_div (by omega) h0 (by omega)
theorem tc_div0 (a : Fin 16) : a / 0 = 0 := by revert a; decide
theorem tc_subV (a b : Fin 16) : a - b = a + 15 * b := by revert a b; decide
theorem tc_toV_I (v : Fin 16) (r : Int32) (h : tc_toV r = v) : r &&& 15 = tc_I v := by rw [tc_and15, h]
theorem tc_toV_lt {y : Nat} (h : y < 16) : nI y = tc_I (tc_toV (nI y)) := by
  show nI y = nI (tc_toV (nI y)).val
  rw [tc_toV_nI, Nat.mod_eq_of_lt h]
section
variable {post : SY → Prop} {fn hi : Int32} {ka fi se th we ne bg tm : Nat → Int32} {A : tc_A} {s x y z : Nat}
def tc_Q (post : SY → Prop) (fn hi : Int32) (ka fi se th we ne bg tm : Nat → Int32) (A : tc_A) (s : Nat) (r : Int32) : Prop :=
  vp_in (fi (nI s).toNatClampNeg) 6 ∧ ∀ vars : Nat → Int32, vars = upd (fun j => tc_I (A.1 j)) (fi (nI s).toNatClampNeg).toNatClampNeg (r &&& 15) → post (fn, hi, (nI A.2.2.2), ka, fi, se, th, we, ne, vars, (fun j => tc_I (A.2.1 j)), bg, tm, A.2.2.1)
theorem tc_Q_i (hs : s < 40) (ex : fi s = nI x) (hx : x < 6) (v : Fin 16) (r : Int32) (hr : tc_toV r = v) (h : post (fn, hi, (nI A.2.2.2), ka, fi, se, th, we, ne, (fun j => tc_I (tc_up A.1 x v j)), (fun j => tc_I (A.2.1 j)), bg, tm, A.2.2.1)) : tc_Q post fn hi ka fi se th we ne bg tm A s r := by
  have cl : (nI s).toNatClampNeg = s := nI_clamp (by omega)
  refine ⟨by rw [cl, ex]; exact vp_in_nI hx (by omega), nm_r (e' := fun j => tc_I (tc_up A.1 x v j)) ?_ h⟩
  rw [cl, ex, nI_clamp (by omega), tc_toV_I v r hr, tc_updI]
/-- the way into a statement of a kind but 0 and 9 -/
theorem tc_y143 (k : Nat) (z0 : Int32) (hs : s < 40) (k8 : k ≠ 8) (hk : k ≤ 13) (h : wpY_result (tc_Q post fn hi ka fi se th we ne bg tm A s) (fn, hi, (nI A.2.2.2), ka, fi, se, th, we, ne, (fun j => tc_I (A.1 j)), (fun j => tc_I (A.2.1 j)), bg, tm, A.2.2.1) (nI k) (tc_I (A.1 x)) (tc_I (A.1 y)) z0) : wY_simple_143 post (nI s) (nI k) (tc_I (A.1 x)) (tc_I (A.1 y)) z0 fn hi (nI A.2.2.2) ka fi se th we ne (fun j => tc_I (A.1 j)) (fun j => tc_I (A.2.1 j)) bg tm A.2.2.1 :=
  br_f (tc_ne (c := 8) (by omega) (by decide) k8) ⟨vp_in_nI hs (by omega), h⟩
theorem tc_y108a (k : Nat) (hs : s < 40) (ey : se s = nI y) (hy : y < 6) (h : wY_simple_143 post (nI s) (nI k) (tc_I (A.1 x)) (tc_I (A.1 y)) 0 fn hi (nI A.2.2.2) ka fi se th we ne (fun j => tc_I (A.1 j)) (fun j => tc_I (A.2.1 j)) bg tm A.2.2.1) : wY_simple_108 post (nI s) (nI k) (tc_I (A.1 x)) 0 fn hi (nI A.2.2.2) ka fi se th we ne (fun j => tc_I (A.1 j)) (fun j => tc_I (A.2.1 j)) bg tm A.2.2.1 := by
  have cl : (nI s).toNatClampNeg = s := nI_clamp (by omega)
  refine ⟨vp_in_nI hs (by omega), by rw [cl, ey]; exact vp_in_nI hy (by omega), nm_r (e' := tc_I (A.1 y)) ?_ (br_t rfl h)⟩
  rw [cl, ey, nI_clamp (by omega)]
theorem tc_y108b (k : Nat) (hs : s < 40) (ey : se s = nI y) (hy : y < 6) (ez : th s = nI z) (hz : z < 6) (h : wY_simple_143 post (nI s) (nI k) (tc_I (A.1 x)) (tc_I (A.1 y)) (tc_I (A.1 z)) fn hi (nI A.2.2.2) ka fi se th we ne (fun j => tc_I (A.1 j)) (fun j => tc_I (A.2.1 j)) bg tm A.2.2.1) : wY_simple_103 post (nI s) (nI k) (tc_I (A.1 x)) fn hi (nI A.2.2.2) ka fi se th we ne (fun j => tc_I (A.1 j)) (fun j => tc_I (A.2.1 j)) bg tm A.2.2.1 := by
  have cl : (nI s).toNatClampNeg = s := nI_clamp (by omega)
  delta wY_simple_103
  refine ⟨vp_in_nI hs (by omega), by rw [cl, ey]; exact vp_in_nI hy (by omega), nm_r (e' := tc_I (A.1 y)) ?_ (br_f (by decide) ⟨vp_in_nI hs (by omega), by rw [cl, ez]; exact vp_in_nI hz (by omega), ?_⟩)⟩
  · rw [cl, ey, nI_clamp (by omega)]
  · rw [cl, ez, nI_clamp (by omega)]
    exact h
theorem tc_ysimple (k : Nat) (hs : s < 40) (ek : ka s = nI k) (ex : fi s = nI x) (ey : se s = nI y) (ez : th s = nI z) (hk : k ≤ 13) (k10 : k ≠ 10) (k11 : k ≠ 11) (k12 : k ≠ 12) (hx : x < 6) (hy0 : k = 0 → y < 16) (hy : k ≠ 0 → k ≠ 9 → y < 6) (hz : k = 4 ∨ k = 5 ∨ k = 6 ∨ 9 < k → z < 6) (hpr : A.2.2.2 ≤ 10000) (B : tc_A) (hB : B = tc_evs k x y z A) (h : post (fn, hi, nI B.2.2.2, ka, fi, se, th, we, ne, (fun j => tc_I (B.1 j)), (fun j => tc_I (B.2.1 j)), bg, tm, B.2.2.1)) : wpY_simple post (fn, hi, (nI A.2.2.2), ka, fi, se, th, we, ne, (fun j => tc_I (A.1 j)), (fun j => tc_I (A.2.1 j)), bg, tm, A.2.2.1) (nI s) := by
  have cl : (nI s).toNatClampNeg = s := nI_clamp (by omega)
  have vin : vp_in (nI s) 40 := vp_in_nI hs (by omega)
  have vx : vp_in (fi (nI s).toNatClampNeg) 6 := by rw [cl, ex]; exact vp_in_nI hx (by omega)
  have ek' : ka (nI s).toNatClampNeg = nI k := by rw [cl]; exact ek
  have ex' : (fun j => tc_I (A.1 j)) (fi (nI s).toNatClampNeg).toNatClampNeg = tc_I (A.1 x) := by rw [cl, ex, nI_clamp (by omega)]
  delta wpY_simple
  refine ⟨vin, nm_r ek' ⟨vin, vx, nm_r ex' ?_⟩⟩
  by_cases k0 : k = 0
  · subst k0
    have hB : B = (tc_up A.1 x (tc_toV (nI y)), A.2) := hB
    subst hB
    refine br_t rfl ⟨vin, vin, vx, nm_r (e' := fun j => tc_I (tc_up A.1 x (tc_toV (nI y)) j)) ?_ h⟩
    rw [cl, ex, ey, nI_clamp (by omega), ← tc_updI, ← tc_toV_lt (hy0 rfl)]
  refine br_f (tc_ne (c := 0) (by omega) (by decide) k0) ?_
  by_cases k9 : k = 9
  · subst k9
    have hB : B = (A.1, A.2.1, tc_say A.2.2 (tc_I (A.1 x))) := hB
    subst hB
    refine br_t rfl ?_
    have clp : (nI A.2.2.2).toNatClampNeg = A.2.2.2 := nI_clamp (by omega)
    by_cases p40 : A.2.2.2 < 40
    · rw [show tc_say A.2.2 (tc_I (A.1 x)) = (upd A.2.2.1 A.2.2.2 (tc_I (A.1 x)), A.2.2.2 + 1) from by unfold tc_say; rw [if_pos p40]] at h
      refine br_f (nI_ge (b := 40) p40 (by decide)) ⟨vp_in_nI p40 (by omega), nm_r (e' := upd A.2.2.1 A.2.2.2 (tc_I (A.1 x))) (by rw [clp]) ?_⟩
      exact nm_r (nI_1 A.2.2.2) h
    · rw [show tc_say A.2.2 (tc_I (A.1 x)) = (A.2.2.1, A.2.2.2 + 1) from by unfold tc_say; rw [if_neg p40]] at h
      exact br_t (nI_le (a := 40) (by omega) (by omega)) (nm_r (nI_1 A.2.2.2) h)
  refine br_f (tc_ne (c := 9) (by omega) (by decide) k9) ?_
  have hy6 := hy k0 k9
  have ck := fun c hc (h : k ≠ c) => tc_ne (v := k) (c := c) (by omega) hc h
  by_cases k4 : k = 4
  · subst k4
    have hB : B = (tc_up A.1 x (A.1 y * A.1 z), A.2) := hB
    subst hB
    refine br_t rfl (tc_y108b 4 hs ey hy6 ez (hz (by omega)) (tc_y143 4 _ hs (by decide) (by decide) ?_))
    exact br_f (by decide) (br_f (by decide) (br_t rfl (tc_Q_i hs ex hx _ _ (by rw [tc_toV_mul, tc_I_toV, tc_I_toV]) h)))
  refine br_f (ck 4 (by decide) k4) ?_
  by_cases k5 : k = 5
  · subst k5
    have hB : B = (tc_up A.1 x (if A.1 y < A.1 z then 1 else 0), A.2) := hB
    subst hB
    refine br_t rfl (tc_y108b 5 hs ey hy6 ez (hz (by omega)) (tc_y143 5 _ hs (by decide) (by decide) ?_))
    refine br_f (by decide) (br_f (by decide) (br_f (by decide) (br_t rfl ?_)))
    by_cases lt : A.1 y < A.1 z
    · refine br_f (fun c => (tc_I_le _ _).mp c lt) (tc_Q_i hs ex hx _ _ ?_ h)
      show tc_toV 1 = if A.1 y < A.1 z then 1 else 0
      rw [if_pos lt]
      rfl
    · refine br_t ((tc_I_le _ _).mpr lt) (tc_Q_i hs ex hx _ _ ?_ h)
      show tc_toV 0 = if A.1 y < A.1 z then 1 else 0
      rw [if_neg lt]
      rfl
  refine br_f (ck 5 (by decide) k5) ?_
  by_cases k6 : k = 6
  · subst k6
    have hB : B = (tc_up A.1 x (if A.1 y = A.1 z then 1 else 0), A.2) := hB
    subst hB
    refine br_t rfl (tc_y108b 6 hs ey hy6 ez (hz (by omega)) (tc_y143 6 _ hs (by decide) (by decide) ?_))
    refine br_f (by decide) (br_f (by decide) (br_f (by decide) (br_f (by decide) (br_t rfl ?_))))
    by_cases eq : A.1 y = A.1 z
    · refine br_t ((tc_I_eq _ _).mpr eq) (tc_Q_i hs ex hx _ _ ?_ h)
      show tc_toV 1 = if A.1 y = A.1 z then 1 else 0
      rw [if_pos eq]
      rfl
    · refine br_f (fun c => eq ((tc_I_eq _ _).mp c)) (tc_Q_i hs ex hx _ _ ?_ h)
      show tc_toV 0 = if A.1 y = A.1 z then 1 else 0
      rw [if_neg eq]
      rfl
  refine br_f (ck 6 (by decide) k6) ?_
  by_cases k13 : k = 13
  · subst k13
    have hB : B = (tc_up A.1 x (A.1 y / A.1 z), A.2) := hB
    subst hB
    refine br_t rfl (tc_y108b 13 hs ey hy6 ez (hz (by omega)) (tc_y143 13 _ hs (by decide) (by decide) ?_))
    refine br_f (by decide) (br_f (by decide) (br_f (by decide) (br_f (by decide) (br_f (by decide) (br_f (by decide) (br_t rfl ?_))))))
    by_cases z0 : A.1 z = 0
    · refine br_t ((tc_I0 _).mpr z0) (tc_Q_i hs ex hx _ _ ?_ h)
      show tc_toV 0 = A.1 y / A.1 z
      rw [z0, tc_div0]
      rfl
    · have nz : ¬ tc_I (A.1 z) = 0 := fun c => z0 ((tc_I0 _).mp c)
      refine br_f nz (br_f nz ⟨nz, tc_Q_i hs ex hx _ _ ?_ h⟩)
      rw [tc_I_div _ _ z0, tc_I_toV]
  refine br_f (ck 13 (by decide) k13) ?_
  refine tc_y108a k hs ey hy6 ?_
  by_cases k8 : k = 8
  · subst k8
    have hB : B = (A.1, tc_up A.2.1 (A.1 x).val (A.1 y), A.2.2) := hB
    subst hB
    have clx : (tc_I (A.1 x)).toNatClampNeg = (A.1 x).val := nI_clamp (by omega)
    exact br_t rfl ⟨vp_in_nI (A.1 x).isLt (by omega), nm_r (e' := fun j => tc_I (tc_up A.2.1 (A.1 x).val (A.1 y) j)) (by rw [clx, tc_updI]) h⟩
  refine tc_y143 k _ hs k8 hk ?_
  by_cases k2 : k = 2
  · subst k2
    have hB : B = (tc_up A.1 x (A.1 x + tc_toV 1 * A.1 y), A.2) := hB
    subst hB
    exact br_t rfl (tc_Q_i hs ex hx _ _ (by rw [tc_toV_add, tc_I_toV, tc_I_toV, tc_p1, tc_r9]) h)
  refine br_f (ck 2 (by decide) k2) ?_
  by_cases k3 : k = 3
  · subst k3
    have hB : B = (tc_up A.1 x (A.1 x + tc_toV (-1) * A.1 y), A.2) := hB
    subst hB
    exact br_t rfl (tc_Q_i hs ex hx _ _ (by rw [tc_toV_sub, tc_I_toV, tc_I_toV, tc_m1, tc_subV]) h)
  refine br_f (ck 3 (by decide) k3) (br_f (ck 4 (by decide) k4) (br_f (ck 5 (by decide) k5) (br_f (ck 6 (by decide) k6) ?_)))
  by_cases k7 : k = 7
  · subst k7
    have hB : B = (tc_up A.1 x (A.2.1 (A.1 y).val), A.2) := hB
    subst hB
    have cly : (tc_I (A.1 y)).toNatClampNeg = (A.1 y).val := nI_clamp (by omega)
    exact br_t rfl ⟨vp_in_nI (A.1 y).isLt (by omega), tc_Q_i hs ex hx _ _ (by rw [cly, tc_I_toV]) h⟩
  have k1 : k = 1 := by omega
  subst k1
  have hB : B = (tc_up A.1 x (A.1 y), A.2) := hB
  subst hB
  exact br_f (by decide) (br_f (by decide) (tc_Q_i hs ex hx _ _ (by rw [tc_I_toV]) h))
end
