/-! part 13: the component's run against the meaning -/
def tc_N (a : Nat → Int32) (s : Nat) : Nat := (a s).toBitVec.toNat
theorem tc_N_eq (a : Nat → Int32) (s : Nat) : a s = nI (tc_N a s) := (tc_nIu (a s)).symm
theorem tc_len_simple (lv : Bool) (k x y z : Nat) : (tc_simple lv k x y z).1.length ≤ 73 := by
  unfold tc_simple
  by_cases k0 : k = 0
  · rw [if_pos k0]; exact Nat.le_of_ble_eq_true rfl
  rw [if_neg k0]
  by_cases k1 : k = 1
  · rw [if_pos k1]; exact Nat.le_of_ble_eq_true rfl
  rw [if_neg k1]
  by_cases k2 : k = 2
  · rw [if_pos k2]; exact Nat.le_of_ble_eq_true rfl
  rw [if_neg k2]
  by_cases k3 : k = 3
  · rw [if_pos k3]; exact Nat.le_of_ble_eq_true rfl
  rw [if_neg k3]
  by_cases k4 : k = 4
  · rw [if_pos k4]; exact Nat.le_of_ble_eq_true rfl
  rw [if_neg k4]
  by_cases k5 : k = 5
  · rw [if_pos k5]; exact Nat.le_of_ble_eq_true rfl
  rw [if_neg k5]
  by_cases k6 : k = 6
  · rw [if_pos k6]; exact Nat.le_of_ble_eq_true rfl
  rw [if_neg k6]
  by_cases k7 : k = 7
  · rw [if_pos k7]; exact Nat.le_of_ble_eq_true rfl
  rw [if_neg k7]
  by_cases k8 : k = 8
  · rw [if_pos k8]; exact Nat.le_of_ble_eq_true rfl
  rw [if_neg k8]
  by_cases k9 : k = 9
  · rw [if_pos k9]; exact Nat.le_of_ble_eq_true rfl
  rw [if_neg k9]
  exact Nat.le_of_ble_eq_true rfl
theorem tc_len_choose (lv : Bool) (x ns : Nat) (a b : tc_Fr) : (tc_choose lv x ns a b).1.length = 19 + a.1.length + b.1.length := by
  simp only [tc_choose, tc_seq, tc_loop, tc_tok, List.length_append, List.length_cons, List.length_nil, tc_ln_addTo, tc_ln_clear]
  omega
theorem tc_len_repeat (lv : Bool) (x ns : Nat) (a : tc_Fr) : (tc_repeat lv x ns a).1.length = 12 + a.1.length := by
  simp only [tc_repeat, tc_seq, tc_loop, tc_tok, List.length_append, List.length_cons, List.length_nil, tc_ln_addTo]
  omega
theorem tc_len_cd (K X Y Z Wt Nt : Nat → Nat) (lv : Bool) (n : Nat) (ok : ∀ s, s < n → tc_Ok K X Y Z Wt Nt s) : ∀ (f s ns : Nat), s < n → s < f → (tc_cd K X Y Z lv f s ns).1.length ≤ 73 * Wt s := by
  intro f
  induction f with
  | zero => intro s ns h1 h2; omega
  | succ f ih =>
    intro s ns h1 h2
    obtain ⟨o1, o2, o3, o4, o10, o11, o12, ox, oy0, oy, oz⟩ := ok s h1
    unfold tc_cd
    by_cases k10 : K s = 10
    · rw [if_pos k10]
      obtain ⟨q1, q2, q3, q4, q5⟩ := o10 k10
      have a1 := ih (X s) ns (by omega) (by omega)
      have a2 := ih (Y s) ns (by omega) (by omega)
      show (_ ++ _ : List tc_Tok).length ≤ _
      rw [List.length_append]
      omega
    rw [if_neg k10]
    by_cases k11 : K s = 11
    · rw [if_pos k11]
      obtain ⟨q1, q2, q3, q4, q5⟩ := o11 k11
      have a1 := ih (Y s) (ns + 1) (by omega) (by omega)
      have a2 := ih (Z s) (ns + 1) (by omega) (by omega)
      rw [tc_len_choose]
      omega
    rw [if_neg k11]
    by_cases k12 : K s = 12
    · rw [if_pos k12]
      obtain ⟨q1, q2, q3⟩ := o12 k12
      have a1 := ih (Y s) (ns + 1) (by omega) (by omega)
      rw [tc_len_repeat]
      omega
    rw [if_neg k12]
    have := tc_len_simple lv (K s) (X s) (Y s) (Z s)
    omega
theorem tc_bnd_top {w d : Nat} (hw : w ≤ 12) (hd : d ≤ 2) : 20000 * (w * 16 ^ d) ≤ 100000000 := by
  have p := Nat.pow_le_pow_right (n := 16) (by omega) hd
  have q := Nat.mul_le_mul hw p
  rw [show 12 * 16 ^ 2 = 3072 from by decide] at q
  omega
theorem tc_xrun {post : Int32 → SX → Prop} {n s : Nat} {said lev ln pc wt nst : Int32} {ka fi se th we ne kept ops args tasks starts : Nat → Int32} {vs es : Nat → Fin 16} (hn : n ≤ 40) (hs : s < n)
    (ok : ∀ s, s < n → tc_Ok (tc_N ka) (tc_N fi) (tc_N se) (tc_N th) (tc_N we) (tc_N ne) s) (A : tc_A) (hA : A = tc_ev (tc_N ka) (tc_N fi) (tc_N se) (tc_N th) 40 s (vs, es, (kept, 0)))
    (hp : ∀ (ln' pc' wt' nst' : Int32) (ops' args' tasks' starts' : Nat → Int32), post (nI A.2.2.2) (nI n, nI A.2.2.2, lev, ln', pc', wt', nst', ka, fi, se, th, we, ne, (fun j => tc_I (tc_tp A.1 A.2.1 (fun _ => 0) j)), A.2.2.1, ops', args', tasks', starts')) :
    wpX_run post (nI n, said, lev, ln, pc, wt, nst, ka, fi, se, th, we, ne, (fun j => tc_I (tc_tp vs es (fun _ => 0) j)), kept, ops, args, tasks, starts) (nI s) := by
  obtain ⟨lv, hlv⟩ : ∃ lv : Bool, lv = decide (lev = 1) := ⟨_, rfl⟩
  have oks := ok s hs
  have hW := oks.2.2.1
  have hW1 := oks.2.1
  have hN := oks.2.2.2.1
  have hlen := tc_len_cd _ _ _ _ _ _ lv n ok 40 s 0 hs (by omega)
  have hmt := (tc_mt_cd hlv _ _ _ _ _ _ n ok 40 s 0 hs (by omega) (by omega)).1
  have hmain := tc_main _ _ _ _ _ _ lv n ok 40 s 0 (fun _ => 0) (vs, es, (kept, 0)) hs (by omega) (by omega) (fun _ _ => rfl) 0
  rw [← hA] at hmain
  have hbt : tc_bnd (tc_N we) (tc_N ne) s ≤ 100000000 := tc_bnd_top hW hN
  generalize tc_bnd (tc_N we) (tc_N ne) s = bn at hmain hbt
  have eT : [] ++ tc_rest (tc_N ka) (tc_N fi) (tc_N se) (tc_N th) lv [s] 0 = (tc_cd (tc_N ka) (tc_N fi) (tc_N se) (tc_N th) lv 40 s 0).1 := by
    rw [tc_rest_s _ _ _ _ _ _ _ _ (by omega)]
    show [] ++ (_ ++ []) = _
    rw [List.append_nil, List.nil_append]
  have eT1 : (tc_rest (tc_N ka) (tc_N fi) (tc_N se) (tc_N th) lv [s] 0).length = (tc_cd (tc_N ka) (tc_N fi) (tc_N se) (tc_N th) lv 40 s 0).1.length := congrArg List.length eT
  have htn : tc_tn (tc_N we) [s] = 3 * tc_N we s - 2 := by
    show (if 40 ≤ s then 1 else 3 * tc_N we s - 2) + 0 = _
    rw [if_neg (by omega), Nat.add_zero]
  have hqv : tc_qv (tc_N ne) n [s] 0 := tc_qv_s (by omega) hs (by omega) rfl
  delta wpX_run
  refine br_f (nI_pos (by omega)) (br_f (nI_ge hs (by omega)) (br_f (by decide) ?_))
  delta wpX_writeCode
  refine tc_wlater (C := (nI n, 0, lev, ka, fi, se, th, we, ne, (fun j => tc_I (tc_tp vs es (fun _ => 0) j)), kept, starts)) (T := []) (wt := 0) (ns := nI 0) s rfl (by decide) ⟨64, ?_⟩
  refine tc_wcode (C := (nI n, 0, lev, ka, fi, se, th, we, ne, (fun j => tc_I (tc_tp vs es (fun _ => 0) j)), kept, starts)) lv n hn ok (tc_N_eq ka) (tc_N_eq fi) (tc_N_eq se) (tc_N_eq th) 64 [s] 0 0 [] _ ops args (by omega) (by omega) hqv ⟨pk_us, trivial⟩ (by rw [eT1]; show 0 + _ ≤ _; omega) (fun tk' => tc_wr_cast eT ?_) (by decide) trivial
  generalize tc_cd (tc_N ka) (tc_N fi) (tc_N se) (tc_N th) lv 40 s 0 = P at *
  intro ops' args' hpl hh
  have hl2 := tc_em_len P.1 0
  have hl3 : (tc_em 0 P.1).length ≤ 2048 := by omega
  have hF := hmt.1 0 0
  delta wpX_matchLoops
  refine ⟨(tc_em 0 P.1).length + 1, hmt.2 (tc_em 0 P.1).length _ (tc_mr hl3) 0 0 0 ops' args' starts hh (by omega) (by omega) ?_ _ (by omega)⟩
  intro ops2 args2 st2 g1 g2 g3
  rw [Nat.zero_add]
  refine tc_wm_end hl3 ?_
  delta wpX_carryOut
  refine hmain ops2 args2 (tc_em 0 P.1).length _ (tc_mach hl3) 0 g1 (by omega) 0 ?_ 0 (by omega) (Nat.le_refl _)
  rw [Nat.zero_add, hF]
  exact tc_wc_end hl3 (hp _ _ _ _ _ _ _ _)
