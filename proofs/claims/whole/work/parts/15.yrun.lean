/-! part 15: the reference's run against the meaning (made by wip/whole/gen15.py) -/
theorem tc_nb_a (w d w1 d1 w2 d2 : Nat) (hw : w = 1 + w1 + w2) (h1 : d1 ≤ d) (h2 : d2 ≤ d) : 1 + w1 * 16 ^ d1 + w2 * 16 ^ d2 ≤ w * 16 ^ d := by
  have := tc_bnd_a w d w1 d1 w2 d2 hw h1 h2
  generalize w * 16 ^ d = c at *
  generalize w1 * 16 ^ d1 = a at *
  generalize w2 * 16 ^ d2 = b at *
  omega
theorem tc_nb_r (w d w1 d1 : Nat) (hw : w = 1 + w1) (h1 : d1 + 1 ≤ d) : 1 + 15 * (w1 * 16 ^ d1) ≤ w * 16 ^ d := by
  have := tc_bnd_r w d w1 d1 hw h1
  generalize w * 16 ^ d = c at *
  generalize w1 * 16 ^ d1 = a at *
  omega
theorem tc_nb_1 (w d : Nat) (h : 1 ≤ w) : 1 ≤ w * 16 ^ d := by
  have r : 1 ≤ 16 ^ d := Nat.pow_pos (by decide)
  have := Nat.mul_le_mul h r
  omega
theorem tc_evs_said (k x y z : Nat) (A : tc_A) : (tc_evs k x y z A).2.2.2 ≤ A.2.2.2 + 1 := by
  unfold tc_evs
  repeat' split
  all_goals first | exact Nat.le_succ _ | exact Nat.le_refl _
def tc_RY (post : Int32 → SY → Prop) (fn : Int32) (ka fi se th we ne : Nat → Int32) (m h : Nat) (bg tm : Nat → Int32) (A : tc_A) : Prop := ∀ step, step + m ≤ 10000 → A.2.2.2 ≤ step → ∃ fuel, wY_run_28 post fuel (nI step) fn (nI h) (nI A.2.2.2) ka fi se th we ne (fun j => tc_I (A.1 j)) (fun j => tc_I (A.2.1 j)) bg tm A.2.2.1
def tc_RC (post : Int32 → SY → Prop) (fn : Int32) (ka fi se th we ne : Nat → Int32) (m s h : Nat) (bg tm : Nat → Int32) (A : tc_A) : Prop := ∀ step, step + m ≤ 10000 → A.2.2.2 ≤ step → ∃ fuel, wY_run_93 post (wY_run_28 post fuel) (nI step) (nI s) fn (nI h) (nI A.2.2.2) ka fi se th we ne (fun j => tc_I (A.1 j)) (fun j => tc_I (A.2.1 j)) bg tm A.2.2.1
section
variable {post : Int32 → SY → Prop} {fn : Int32} {ka fi se th we ne : Nat → Int32}
theorem tc_RC_le {m m' s h : Nat} {bg tm : Nat → Int32} {A : tc_A} (H : tc_RC post fn ka fi se th we ne m s h bg tm A) (hm : m ≤ m') : tc_RC post fn ka fi se th we ne m' s h bg tm A := fun step h1 h2 => H step (by omega) h2
theorem tc_pop0 {m s h : Nat} {bg tm : Nat → Int32} {A : tc_A} (hb : bg h = nI s) (ht : tm h = nI 1) (hh : h < 40) (hm : 1 ≤ m) (H : tc_RC post fn ka fi se th we ne m s h bg (upd tm h (nI 0)) A) : tc_RY post fn ka fi se th we ne m (h + 1) bg tm A := by
  intro step h1 h2
  obtain ⟨fuel, hf⟩ := H step h1 h2
  have hp : nI (h + 1) - 1 = nI h := nI_pred h
  have cl : (nI h).toNatClampNeg = h := nI_clamp (by omega)
  have vin : vp_in (nI (h + 1) - 1) 40 := by rw [hp]; exact vp_in_nI hh (by omega)
  refine ⟨fuel + 1, br_f (nI_ge (b := 10000) (by omega) (by decide)) (br_f (nI_nle (by omega) (by omega)) ⟨vin, nm_r (e' := nI s) (by rw [hp, cl, hb]) ⟨vin, vin, nm_r (e' := upd tm h (nI 0)) ?_ ⟨vin, br_t ?_ (nm_r hp hf)⟩⟩⟩)⟩
  · rw [hp, cl, ht]
    exact congrArg (upd tm h) (nI_pred 0)
  · rw [hp, cl, pk_us]
    rfl
theorem tc_popc {m s h c : Nat} {bg tm : Nat → Int32} {A : tc_A} (hb : bg h = nI s) (ht : tm h = nI (c + 1 + 1)) (hc : c < 100) (hh : h < 40) (hm : 1 ≤ m) (H : tc_RC post fn ka fi se th we ne m s (h + 1) bg (upd tm h (nI (c + 1))) A) : tc_RY post fn ka fi se th we ne m (h + 1) bg tm A := by
  intro step h1 h2
  obtain ⟨fuel, hf⟩ := H step h1 h2
  have hp : nI (h + 1) - 1 = nI h := nI_pred h
  have cl : (nI h).toNatClampNeg = h := nI_clamp (by omega)
  have vin : vp_in (nI (h + 1) - 1) 40 := by rw [hp]; exact vp_in_nI hh (by omega)
  refine ⟨fuel + 1, br_f (nI_ge (b := 10000) (by omega) (by decide)) (br_f (nI_nle (by omega) (by omega)) ⟨vin, nm_r (e' := nI s) (by rw [hp, cl, hb]) ⟨vin, vin, nm_r (e' := upd tm h (nI (c + 1))) ?_ ⟨vin, br_f ?_ hf⟩⟩⟩)⟩
  · rw [hp, cl, ht]
    exact congrArg (upd tm h) (nI_pred (c + 1))
  · rw [hp, cl, pk_us]
    exact nI_ne0 (by omega) (by omega)
theorem tc_yput {P : SY → Prop} {h s c : Nat} {p0 p1 : Int32} {bg tm : Nat → Int32} {A : tc_A} (e0 : p0 = nI s) (e1 : p1 = nI c) (hc0 : 0 < c) (hc : c < 100) (hh : h < 40) (H : P (fn, (nI (h + 1)), (nI A.2.2.2), ka, fi, se, th, we, ne, (fun j => tc_I (A.1 j)), (fun j => tc_I (A.2.1 j)), upd bg h (nI s), upd tm h (nI c), A.2.2.1)) : wpY_put P (fn, (nI h), (nI A.2.2.2), ka, fi, se, th, we, ne, (fun j => tc_I (A.1 j)), (fun j => tc_I (A.2.1 j)), bg, tm, A.2.2.1) p0 p1 := by
  subst e0 e1
  have cl : (nI h).toNatClampNeg = h := nI_clamp (by omega)
  have vin : vp_in (nI h) 40 := vp_in_nI hh (by omega)
  exact br_f (nI_ne0 hc0 (by omega)) ⟨vin, nm_r (e' := upd bg h (nI s)) (by rw [cl]) ⟨vin, nm_r (e' := upd tm h (nI c)) (by rw [cl]) (nm_r (nI_1 h) H)⟩⟩
theorem tc_yrep {Y h nb : Nat} {g : tc_A → tc_A} (hh : h + 1 < 40) (hnb : 1 ≤ nb) (R0 : ∀ m bg tm A, (∀ bg' tm', (∀ j, j < h → bg' j = bg j ∧ tm' j = tm j) → tc_RY post fn ka fi se th we ne m h bg' tm' (g A)) → tc_RC post fn ka fi se th we ne (m + nb) Y h bg tm A)
    (R1 : ∀ m bg tm A, (∀ bg' tm', (∀ j, j < h + 1 → bg' j = bg j ∧ tm' j = tm j) → tc_RY post fn ka fi se th we ne m (h + 1) bg' tm' (g A)) → tc_RC post fn ka fi se th we ne (m + nb) Y (h + 1) bg tm A) :
    ∀ (c : Nat) (m : Nat) (bg tm : Nat → Int32) (A : tc_A), c < 100 → bg h = nI Y → tm h = nI (c + 1) → (∀ bg' tm', (∀ j, j < h → bg' j = bg j ∧ tm' j = tm j) → tc_RY post fn ka fi se th we ne m h bg' tm' (tc_it g (c + 1) A)) → tc_RY post fn ka fi se th we ne (m + (c + 1) * nb) (h + 1) bg tm A := by
  intro c
  induction c with
  | zero =>
    intro m bg tm A hc hb ht H
    rw [Nat.zero_add, Nat.one_mul]
    refine tc_pop0 hb ht (by omega) (by omega) (R0 m bg _ A (fun bg' tm' hag => H bg' tm' (fun j hj => ?_)))
    have := hag j hj
    exact ⟨this.1, this.2.trans (pk_un (by omega))⟩
  | succ c ih =>
    intro m bg tm A hc hb ht H
    rw [show m + (c + 1 + 1) * nb = m + (c + 1) * nb + nb from by rw [Nat.succ_mul (c + 1)]; omega]
    refine tc_popc hb ht (by omega) (by omega) (by omega) (R1 _ bg _ A (fun bg' tm' hag => ?_))
    refine ih m bg' tm' (g A) (by omega) ((hag h (by omega)).1.trans hb) ((hag h (by omega)).2.trans pk_us) (fun bg2 tm2 hag2 => H bg2 tm2 (fun j hj => ?_))
    have a1 := hag2 j hj
    have a2 := hag j (by omega)
    exact ⟨a1.1.trans a2.1, a1.2.trans (a2.2.trans (pk_un (by omega)))⟩
theorem tc_cy (n : Nat) (hn : n ≤ 40) (ok : ∀ s, s < n → tc_Ok (tc_N ka) (tc_N fi) (tc_N se) (tc_N th) (tc_N we) (tc_N ne) s) : ∀ (f s : Nat), s < n → s < f → ∀ (m h : Nat) (bg tm : Nat → Int32) (A : tc_A), h + tc_N we s ≤ 40 →
    (∀ bg' tm', (∀ j, j < h → bg' j = bg j ∧ tm' j = tm j) → tc_RY post fn ka fi se th we ne m h bg' tm' (tc_ev (tc_N ka) (tc_N fi) (tc_N se) (tc_N th) f s A)) → tc_RC post fn ka fi se th we ne (m + tc_N we s * 16 ^ tc_N ne s) s h bg tm A := by
  intro f
  induction f with
  | zero => intro s h1 h2; omega
  | succ f ih =>
    intro s hs hf m h bg tm A hh H
    obtain ⟨o1, o2, o3, o4, o10, o11, o12, ox, oy0, oy, oz⟩ := ok s hs
    have cl : (nI s).toNatClampNeg = s := nI_clamp (by omega)
    have vin : vp_in (nI s) 40 := vp_in_nI (by omega) (by omega)
    have ek : ka (nI s).toNatClampNeg = nI (tc_N ka s) := by rw [cl]; exact tc_N_eq ka s
    have ex : fi (nI s).toNatClampNeg = nI (tc_N fi s) := by rw [cl]; exact tc_N_eq fi s
    have ey : se (nI s).toNatClampNeg = nI (tc_N se s) := by rw [cl]; exact tc_N_eq se s
    have ez : th (nI s).toNatClampNeg = nI (tc_N th s) := by rw [cl]; exact tc_N_eq th s
    have nb0 := tc_nb_1 _ (tc_N ne s) o2
    unfold tc_ev at H
    by_cases k10 : tc_N ka s = 10
    · rw [if_pos k10] at H
      obtain ⟨q1, q2, q3, q4, q5⟩ := o10 k10
      have w1 := (ok _ (show tc_N fi s < n by omega)).2.1
      have w2 := (ok _ (show tc_N se s < n by omega)).2.1
      have n1 := tc_nb_1 _ (tc_N ne (tc_N fi s)) w1
      have n2 := tc_nb_1 _ (tc_N ne (tc_N se s)) w2
      refine tc_RC_le (m := m + tc_N we (tc_N se s) * 16 ^ tc_N ne (tc_N se s) + tc_N we (tc_N fi s) * 16 ^ tc_N ne (tc_N fi s) + 1) ?_ (by have := tc_nb_a _ _ _ _ _ _ q3 q4 q5; omega)
      have ihx := ih (tc_N fi s) (by omega) (by omega)
      have ihy := ih (tc_N se s) (by omega) (by omega)
      generalize tc_N we (tc_N se s) * 16 ^ tc_N ne (tc_N se s) = NY at *
      generalize tc_N we (tc_N fi s) * 16 ^ tc_N ne (tc_N fi s) = NX at *
      have key : tc_RY post fn ka fi se th we ne (m + NY + NX) (h + 1 + 1) (upd (upd bg h (nI (tc_N se s))) (h + 1) (nI (tc_N fi s))) (upd (upd tm h (nI 1)) (h + 1) (nI 1)) A := by
        refine tc_pop0 pk_us pk_us (by omega) (by omega) (ihx (m + NY) (h + 1) _ _ A (by omega) (fun bg' tm' hag => ?_))
        have a0 := hag h (by omega)
        refine tc_pop0 (s := tc_N se s) (a0.1.trans ((pk_un (by omega)).trans pk_us)) (a0.2.trans ((pk_un (by omega)).trans ((pk_un (by omega)).trans pk_us))) (by omega) (by omega) (ihy m h _ _ _ (by omega) (fun bg2 tm2 hag2 => H bg2 tm2 (fun j hj => ?_)))
        have a1 := hag j (by omega)
        have a2 := hag2 j hj
        refine ⟨a2.1.trans (a1.1.trans ((pk_un (by omega)).trans (pk_un (by omega)))), a2.2.trans ((pk_un (by omega)).trans (a1.2.trans ((pk_un (by omega)).trans ((pk_un (by omega)).trans (pk_un (by omega))))))⟩
      intro step s1 s2
      obtain ⟨fuel, hfu⟩ := key (step + 1) (by omega) (by omega)
      refine ⟨fuel, ?_⟩
      delta wY_run_93 wpY_carryOut
      exact ⟨vin, nm_r (e' := nI 10) (ek.trans (congrArg nI k10)) (br_t rfl ⟨vin, tc_yput ey rfl (by decide) (by decide) (by omega) ⟨vin, tc_yput ex rfl (by decide) (by decide) (by omega) (nm_r (nI_1 step) hfu)⟩⟩)⟩
    rw [if_neg k10] at H
    have hx := ox k10
    have vx : vp_in (fi (nI s).toNatClampNeg) 6 := by rw [ex]; exact vp_in_nI hx (by omega)
    have evx : (fun j => tc_I (A.1 j)) (fi (nI s).toNatClampNeg).toNatClampNeg = tc_I (A.1 (tc_N fi s)) := by rw [ex, nI_clamp (by omega)]
    have c10 := tc_ne (v := tc_N ka s) (c := 10) (by omega) (by decide) k10
    by_cases k11 : tc_N ka s = 11
    · rw [if_pos k11] at H
      obtain ⟨q1, q2, q3, q4, q5⟩ := o11 k11
      have w1 := (ok _ (show tc_N se s < n by omega)).2.1
      have w2 := (ok _ (show tc_N th s < n by omega)).2.1
      have n1 := tc_nb_1 _ (tc_N ne (tc_N se s)) w1
      have n2 := tc_nb_1 _ (tc_N ne (tc_N th s)) w2
      have nba := tc_nb_a _ _ _ _ _ _ q3 (Nat.le_trans (Nat.le_succ _) q4) (Nat.le_trans (Nat.le_succ _) q5)
      have ihy := ih (tc_N se s) (by omega) (by omega)
      have ihz := ih (tc_N th s) (by omega) (by omega)
      generalize tc_N we (tc_N se s) * 16 ^ tc_N ne (tc_N se s) = NY at *
      generalize tc_N we (tc_N th s) * 16 ^ tc_N ne (tc_N th s) = NZ at *
      by_cases v0 : A.1 (tc_N fi s) = 0
      · rw [if_pos v0] at H
        have key : tc_RY post fn ka fi se th we ne (m + NZ) (h + 1) (upd bg h (nI (tc_N th s))) (upd tm h (nI 1)) A := by
          refine tc_pop0 pk_us pk_us (by omega) (by omega) (ihz m h _ _ A (by omega) (fun bg' tm' hag => H bg' tm' (fun j hj => ?_)))
          have a1 := hag j hj
          exact ⟨a1.1.trans (pk_un (by omega)), a1.2.trans ((pk_un (by omega)).trans (pk_un (by omega)))⟩
        refine tc_RC_le (m := m + NZ + 1) ?_ (by omega)
        intro step s1 s2
        obtain ⟨fuel, hfu⟩ := key (step + 1) (by omega) (by omega)
        refine ⟨fuel, ?_⟩
        delta wY_run_93 wpY_carryOut
        exact ⟨vin, nm_r (e' := nI 11) (ek.trans (congrArg nI k11)) (br_f (by decide) (br_t rfl ⟨vin, vx, br_t (evx.trans ((tc_I0 _).mpr v0)) ⟨vin, tc_yput ez rfl (by decide) (by decide) (by omega) (nm_r (nI_1 step) hfu)⟩⟩))⟩
      · rw [if_neg v0] at H
        have key : tc_RY post fn ka fi se th we ne (m + NY) (h + 1) (upd bg h (nI (tc_N se s))) (upd tm h (nI 1)) A := by
          refine tc_pop0 pk_us pk_us (by omega) (by omega) (ihy m h _ _ A (by omega) (fun bg' tm' hag => H bg' tm' (fun j hj => ?_)))
          have a1 := hag j hj
          exact ⟨a1.1.trans (pk_un (by omega)), a1.2.trans ((pk_un (by omega)).trans (pk_un (by omega)))⟩
        refine tc_RC_le (m := m + NY + 1) ?_ (by omega)
        intro step s1 s2
        obtain ⟨fuel, hfu⟩ := key (step + 1) (by omega) (by omega)
        refine ⟨fuel, ?_⟩
        delta wY_run_93 wpY_carryOut
        exact ⟨vin, nm_r (e' := nI 11) (ek.trans (congrArg nI k11)) (br_f (by decide) (br_t rfl ⟨vin, vx, br_f (fun c => v0 ((tc_I0 _).mp (evx.symm.trans c))) ⟨vin, tc_yput ey rfl (by decide) (by decide) (by omega) (nm_r (nI_1 step) hfu)⟩⟩))⟩
    rw [if_neg k11] at H
    have c11 := tc_ne (v := tc_N ka s) (c := 11) (by omega) (by decide) k11
    by_cases k12 : tc_N ka s = 12
    · rw [if_pos k12] at H
      obtain ⟨q1, q2, q3⟩ := o12 k12
      have w1 := (ok _ (show tc_N se s < n by omega)).2.1
      have n1 := tc_nb_1 _ (tc_N ne (tc_N se s)) w1
      have nbr := tc_nb_r _ _ _ _ q2 q3
      have ihy := ih (tc_N se s) (by omega) (by omega)
      generalize tc_N we (tc_N se s) * 16 ^ tc_N ne (tc_N se s) = NY at *
      have hv := (A.1 (tc_N fi s)).isLt
      by_cases v0 : A.1 (tc_N fi s) = 0
      · rw [v0] at H
        have key := H bg tm (fun j hj => ⟨rfl, rfl⟩)
        refine tc_RC_le (m := m + 1) ?_ (by omega)
        intro step s1 s2
        obtain ⟨fuel, hfu⟩ := key (step + 1) (by omega) (Nat.le_succ_of_le s2)
        refine ⟨fuel, ?_⟩
        delta wY_run_93 wpY_carryOut
        exact ⟨vin, nm_r (e' := nI 12) (ek.trans (congrArg nI k12)) (br_f (by decide) (br_f (by decide) (br_t rfl ⟨vin, vin, vx, br_t (evx.trans ((tc_I0 _).mpr v0)) (nm_r (nI_1 step) hfu)⟩)))⟩
      · obtain ⟨c, hc⟩ : ∃ c, (A.1 (tc_N fi s)).val = c + 1 := by
          refine ⟨(A.1 (tc_N fi s)).val - 1, ?_⟩
          have : (A.1 (tc_N fi s)).val ≠ 0 := fun e => v0 (Fin.eq_of_val_eq e)
          omega
        rw [hc] at H
        have key : tc_RY post fn ka fi se th we ne (m + (c + 1) * NY) (h + 1) (upd bg h (nI (tc_N se s))) (upd tm h (nI (c + 1))) A := by
          refine tc_yrep (by omega) n1 (fun m' bg' tm' A' H' => ihy m' h bg' tm' A' (by omega) H') (fun m' bg' tm' A' H' => ihy m' (h + 1) bg' tm' A' (by omega) H') c m _ _ A (by omega) pk_us pk_us (fun bg' tm' hag => H bg' tm' (fun j hj => ?_))
          have a1 := hag j hj
          exact ⟨a1.1.trans (pk_un (by omega)), a1.2.trans (pk_un (by omega))⟩
        have hcN : (c + 1) * NY ≤ 15 * NY := Nat.mul_le_mul_right _ (by omega)
        refine tc_RC_le (m := m + (c + 1) * NY + 1) ?_ (by omega)
        intro step s1 s2
        obtain ⟨fuel, hfu⟩ := key (step + 1) (by omega) (by omega)
        refine ⟨fuel, ?_⟩
        delta wY_run_93 wpY_carryOut
        exact ⟨vin, nm_r (e' := nI 12) (ek.trans (congrArg nI k12)) (br_f (by decide) (br_f (by decide) (br_t rfl ⟨vin, vin, vx, tc_yput (c := c + 1) ey (evx.trans (congrArg nI hc)) (by omega) (by omega) (by omega) (nm_r (nI_1 step) hfu)⟩)))⟩
    rw [if_neg k12] at H
    have c12 := tc_ne (v := tc_N ka s) (c := 12) (by omega) (by decide) k12
    have key := H bg tm (fun j hj => ⟨rfl, rfl⟩)
    refine tc_RC_le (m := m + 1) ?_ (by omega)
    intro step s1 s2
    have hsaid := tc_evs_said (tc_N ka s) (tc_N fi s) (tc_N se s) (tc_N th s) A
    obtain ⟨fuel, hfu⟩ := key (step + 1) (by omega) (by omega)
    refine ⟨fuel, ?_⟩
    delta wY_run_93 wpY_carryOut
    refine ⟨vin, nm_r ek (br_f c10 (br_f c11 (br_f c12 ?_)))⟩
    exact tc_ysimple (tc_N ka s) (by omega) (tc_N_eq ka s) (tc_N_eq fi s) (tc_N_eq se s) (tc_N_eq th s) o1 k10 k11 k12 hx oy0 (fun e1 e2 => oy e1 e2 k10 k11 k12) (fun e => oz (by omega)) (by omega) _ rfl (nm_r (nI_1 step) hfu)
theorem tc_RY_end {m : Nat} {bg tm : Nat → Int32} {A : tc_A} (H : post (nI A.2.2.2) (fn, (nI 0), (nI A.2.2.2), ka, fi, se, th, we, ne, (fun j => tc_I (A.1 j)), (fun j => tc_I (A.2.1 j)), bg, tm, A.2.2.1)) : tc_RY post fn ka fi se th we ne m 0 bg tm A := by
  intro step h1 h2
  exact ⟨1, br_c (fun _ => H) (fun _ => br_t (nI_le (a := 0) (b := 0) (by omega) (by decide)) H)⟩
end
theorem tc_yrun {post : Int32 → SY → Prop} {n s : Nat} {hi pr : Int32} {ka fi se th we ne bg tm kept : Nat → Int32} {vs es : Nat → Fin 16} (hn : n ≤ 40) (hs : s < n) (ok : ∀ s, s < n → tc_Ok (tc_N ka) (tc_N fi) (tc_N se) (tc_N th) (tc_N we) (tc_N ne) s) (A : tc_A) (hA : A = tc_ev (tc_N ka) (tc_N fi) (tc_N se) (tc_N th) 40 s (vs, es, (kept, 0)))
    (hp : ∀ (hi' : Int32) (bg' tm' : Nat → Int32), post (nI A.2.2.2) (nI n, hi', (nI A.2.2.2), ka, fi, se, th, we, ne, (fun j => tc_I (A.1 j)), (fun j => tc_I (A.2.1 j)), bg', tm', A.2.2.1)) :
    wpY_run post (nI n, hi, pr, ka, fi, se, th, we, ne, (fun j => tc_I (vs j)), (fun j => tc_I (es j)), bg, tm, kept) (nI s) := by
  have oks := ok s hs
  have hb := tc_bnd_top oks.2.2.1 oks.2.2.2.1
  have n1 := tc_nb_1 _ (tc_N ne s) oks.2.1
  obtain ⟨n', rfl⟩ : ∃ n', n = n' + 1 := ⟨n - 1, by omega⟩
  have key : tc_RY post (nI (n' + 1)) ka fi se th we ne (0 + tc_N we s * 16 ^ tc_N ne s) (0 + 1) (upd bg 0 (nI s)) (upd tm 0 (nI 1)) (vs, es, (kept, 0)) := by
    refine tc_pop0 pk_us pk_us (by omega) (by omega) (tc_cy (n' + 1) hn ok 40 s hs (by omega) 0 0 _ _ _ (by have := oks.2.2.1; omega) (fun bg' tm' _ => ?_))
    rw [← hA]
    exact tc_RY_end (hp _ _ _)
  obtain ⟨fuel, hf⟩ := key 0 (by omega) (Nat.le_refl _)
  delta wpY_run wpY_isStatement wpY_in
  refine br_f (nI_pos (by omega)) (br_f ?_ ⟨rfl, br_f (by decide) ?_⟩)
  · rw [nI_pred]
    exact nI_nlt (by omega) (by omega)
  · exact tc_yput (fn := nI (n' + 1)) (A := (vs, es, (kept, 0))) (h := 0) (c := 1) rfl rfl (by decide) (by decide) (by decide) ⟨fuel, hf⟩
