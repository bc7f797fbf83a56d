/-! part 09: matching and folding of all that is written -/
theorem tc_cf_m (aw ow n : Int32) (L : List tc_Raw) : tc_cf aw ow ((0, n) :: L) = tc_cf (aw + n) ow L := if_pos rfl
theorem tc_cf_a0 (ow n : Int32) (L : List tc_Raw) : tc_cf 0 ow ((1, n) :: L) = tc_cf 0 (ow + n) L := by
  show (if (1 : Int32) = 0 then _ else if (1 : Int32) = 1 then (if (0 : Int32) = 0 then _ else _) else _) = _
  rw [if_neg (by decide), if_pos rfl, if_pos rfl]
theorem tc_cf_a1 {aw : Int32} (ow n : Int32) (L : List tc_Raw) (h : aw ≠ 0) : tc_cf aw ow ((1, n) :: L) = tc_cf aw ow L := by
  show (if (1 : Int32) = 0 then _ else if (1 : Int32) = 1 then (if aw = 0 then _ else _) else _) = _
  rw [if_neg (by decide), if_pos rfl, if_neg h]
theorem tc_cf_e {aw ow : Int32} (h1 : aw = 0) (h2 : ow = -1) : tc_cf aw ow [] = true := by
  subst h1 h2
  rfl
theorem tc_nIne {c d : Nat} (hc : c < 128) (hd : d < 128) (h : c ≠ d) : 0 + (nI d - nI c) ≠ 0 := by
  intro e
  have : nI d = nI c := by grind
  exact h ((nI_eq (by omega) (by omega)).mp this).symm
theorem tc_bd_clear (c s : Nat) : tc_bd c (tc_tok (1, c, -1)) s = [(1, -1)] := by
  show (tc_mv c c ++ [(1, -1)]) ++ tc_mv c c = [(1, -1)]
  rw [show tc_mv c c = [] from if_pos rfl]
  rfl
theorem tc_bd_pour {c d : Nat} (n : Int32) (s : Nat) (h : c ≠ d) : tc_bd c (tc_seq (tc_tok (1, c, -1)) (tc_tok (1, d, n))) s = [(1, -1), (0, nI d - nI c), (1, n), (0, nI c - nI d)] := by
  show ((tc_mv c c ++ [(1, -1)]) ++ (tc_mv c d ++ [(1, n)])) ++ tc_mv d c = _
  rw [show tc_mv c c = [] from if_pos rfl, show tc_mv c d = [(0, nI d - nI c)] from if_neg (Ne.symm h), show tc_mv d c = [(0, nI c - nI d)] from if_neg h]
  rfl
theorem tc_bd_pour2 {c d e : Nat} (s : Nat) (h1 : c ≠ d) (h2 : c ≠ e) (h3 : d ≠ e) : tc_bd c (tc_seq (tc_tok (1, c, -1)) (tc_seq (tc_tok (1, d, 1)) (tc_tok (1, e, 1)))) s = [(1, -1), (0, nI d - nI c), (1, 1), (0, nI e - nI d), (1, 1), (0, nI c - nI e)] := by
  show ((tc_mv c c ++ [(1, -1)]) ++ ((tc_mv c d ++ [(1, 1)]) ++ (tc_mv d e ++ [(1, 1)]))) ++ tc_mv e c = _
  rw [show tc_mv c c = [] from if_pos rfl, show tc_mv c d = [(0, nI d - nI c)] from if_neg (Ne.symm h1), show tc_mv d e = [(0, nI e - nI d)] from if_neg (Ne.symm h3), show tc_mv e c = [(0, nI c - nI e)] from if_neg h2]
  rfl
section
variable {lev : Int32} {lv : Bool} (hlv : lv = decide (lev = 1))
theorem tc_lv1 (hlv : lv = decide (lev = 1)) (e : lev = 1) : true = lv := by rw [hlv, decide_eq_true e]
theorem tc_lv0 (hlv : lv = decide (lev = 1)) (e : lev ≠ 1) : lv = false := by rw [hlv, decide_eq_false e]
theorem tc_mt_clear (hlv : lv = decide (lev = 1)) (c : Nat) : tc_MT lev 1 (tc_clear lv c) := by
  refine tc_mt_loop (dp := 0) (tc_mt_tok (by decide) (by decide)) (fun e s => ?_) (tc_lv0 hlv)
  rw [tc_bd_clear, tc_cf_a0, ← tc_lv1 hlv e]
  exact tc_cf_e rfl rfl
theorem tc_mt_pour (hlv : lv = decide (lev = 1)) {c d : Nat} (n : Int32) (hc : c < 128) (hd : d < 128) (h : c ≠ d) : tc_MT lev 1 (tc_pour lv c d n) := by
  refine tc_mt_loop (dp := 0) (tc_mt_seq (tc_mt_tok (by decide) (by decide)) (tc_mt_tok (by decide) (by decide))) (fun e s => ?_) (tc_lv0 hlv)
  rw [tc_bd_pour n s h, tc_cf_a0, tc_cf_m, tc_cf_a1 _ _ _ (tc_nIne hc hd h), tc_cf_m, ← tc_lv1 hlv e]
  exact tc_cf_e (by grind) rfl
theorem tc_mt_pour2 (hlv : lv = decide (lev = 1)) {c d e : Nat} (hc : c < 128) (hd : d < 128) (he : e < 128) (h1 : c ≠ d) (h2 : c ≠ e) (h3 : d ≠ e) : tc_MT lev 1 (tc_pour2 lv c d e) := by
  refine tc_mt_loop (dp := 0) (tc_mt_seq (tc_mt_tok (by decide) (by decide)) (tc_mt_seq (tc_mt_tok (by decide) (by decide)) (tc_mt_tok (by decide) (by decide)))) (fun el s => ?_) (tc_lv0 hlv)
  have n2 := tc_nIne hc he h2
  rw [tc_bd_pour2 s h1 h2 h3, tc_cf_a0, tc_cf_m, tc_cf_a1 _ _ _ (tc_nIne hc hd h1), tc_cf_m, tc_cf_a1 _ _ _ (by rw [show 0 + (nI d - nI c) + (nI e - nI d) = 0 + (nI e - nI c) from by grind]; exact n2), tc_cf_m, ← tc_lv1 hlv el]
  exact tc_cf_e (by grind) rfl
theorem tc_mt_addTo (hlv : lv = decide (lev = 1)) {c d : Nat} (hc : c < 128) (hd : d < 128) (h1 : c ≠ d) (h2 : c ≠ 6) (h3 : d ≠ 6) : tc_MT lev 1 (tc_addTo lv c d) :=
  tc_mt_seq (tc_mt_pour2 hlv hc hd (by omega) h1 h2 h3) (tc_mt_pour hlv 1 (by omega) hc (Ne.symm h2))
theorem tc_nf_addTo (c d : Nat) : tc_Nf (tc_addTo lv c d) := tc_nf_l (tc_nf_loop _ _ _)
theorem tc_nf_clear (c : Nat) : tc_Nf (tc_clear lv c) := tc_nf_loop _ _ _
theorem tc_mt_add {dp c : Nat} {n : Int32} : tc_MT lev dp (tc_tok (1, c, n)) := tc_mt_tok (by decide) (by decide)
theorem tc_mt_product (hlv : lv = decide (lev = 1)) {x y z : Nat} (hx : x < 6) (hy : y < 6) (hz : z < 6) : tc_MT lev 3 (tc_product lv x y z) :=
  tc_mt_le (dp := 2) (tc_mt_seq (tc_mt_le (tc_mt_addTo hlv (by omega) (by omega) (by omega) (by omega) (by omega)) (by omega)) (tc_mt_seq (tc_mt_le (tc_mt_addTo hlv (by omega) (by omega) (by omega) (by omega) (by omega)) (by omega)) (tc_mt_seq (tc_mt_le (tc_mt_clear hlv x) (by omega)) (tc_mt_seq
    (tc_mt_loopN (tc_mt_seq tc_mt_add (tc_mt_addTo hlv (by omega) (by omega) (by omega) (by omega) (by omega))) (tc_nf_r (tc_nf_addTo _ _)))
    (tc_mt_le (tc_mt_clear hlv 8) (by omega)))))) (by omega)
theorem tc_mt_less (hlv : lv = decide (lev = 1)) {x y z : Nat} (hx : x < 6) (hy : y < 6) (hz : z < 6) : tc_MT lev 3 (tc_less lv x y z) :=
  tc_mt_seq (tc_mt_le (tc_mt_addTo hlv (by omega) (by omega) (by omega) (by omega) (by omega)) (by omega)) (tc_mt_seq (tc_mt_le (tc_mt_addTo hlv (by omega) (by omega) (by omega) (by omega) (by omega)) (by omega)) (tc_mt_seq
    (tc_mt_loopN (dp := 2) (tc_mt_seq tc_mt_add (tc_mt_seq (tc_mt_le (tc_mt_addTo hlv (by omega) (by omega) (by omega) (by omega) (by omega)) (by omega)) (tc_mt_loopN (dp := 1) (tc_mt_seq tc_mt_add (tc_mt_clear hlv 10)) (tc_nf_r (tc_nf_clear _))))) (tc_nf_r (tc_nf_l (tc_nf_addTo _ _))))
    (tc_mt_seq (tc_mt_le (tc_mt_clear hlv x) (by omega)) (tc_mt_le (tc_mt_loopN (dp := 1) (tc_mt_seq tc_mt_add (tc_mt_clear hlv 8)) (tc_nf_r (tc_nf_clear _))) (by omega)))))
theorem tc_mt_equal (hlv : lv = decide (lev = 1)) {x y z : Nat} (hx : x < 6) (hy : y < 6) (hz : z < 6) : tc_MT lev 3 (tc_equal lv x y z) :=
  tc_mt_seq (tc_mt_le (tc_mt_addTo hlv (by omega) (by omega) (by omega) (by omega) (by omega)) (by omega)) (tc_mt_seq (tc_mt_le (tc_mt_addTo hlv (by omega) (by omega) (by omega) (by omega) (by omega)) (by omega)) (tc_mt_seq
    (tc_mt_le (tc_mt_pour hlv _ (by omega) (by omega) (by omega)) (by omega)) (tc_mt_seq (tc_mt_le (tc_mt_clear hlv x) (by omega)) (tc_mt_seq tc_mt_add (tc_mt_le (tc_mt_loopN (dp := 1) (tc_mt_seq tc_mt_add (tc_mt_clear hlv 7)) (tc_nf_r (tc_nf_clear _))) (by omega))))))
theorem tc_mt_quot (hlv : lv = decide (lev = 1)) {x y z : Nat} (hx : x < 6) (hy : y < 6) (hz : z < 6) : tc_MT lev 3 (tc_quot lv x y z) :=
  tc_mt_seq (tc_mt_le (tc_mt_addTo hlv (by omega) (by omega) (by omega) (by omega) (by omega)) (by omega)) (tc_mt_seq (tc_mt_le (tc_mt_addTo hlv (by omega) (by omega) (by omega) (by omega) (by omega)) (by omega)) (tc_mt_seq (tc_mt_le (tc_mt_addTo hlv (by omega) (by omega) (by omega) (by omega) (by omega)) (by omega)) (tc_mt_seq
    (tc_mt_loopN (dp := 2) (tc_mt_seq tc_mt_add (tc_mt_seq tc_mt_add (tc_mt_seq tc_mt_add (tc_mt_seq (tc_mt_le (tc_mt_addTo hlv (by omega) (by omega) (by omega) (by omega) (by omega)) (by omega))
      (tc_mt_seq (tc_mt_loopN (dp := 1) (tc_mt_seq tc_mt_add (tc_mt_clear hlv 11)) (tc_nf_r (tc_nf_clear _)))
        (tc_mt_loopN (dp := 1) (tc_mt_seq tc_mt_add (tc_mt_seq tc_mt_add (tc_mt_addTo hlv (by omega) (by omega) (by omega) (by omega) (by omega)))) (tc_nf_r (tc_nf_r (tc_nf_addTo _ _))))))))) (tc_nf_r (tc_nf_r (tc_nf_r (tc_nf_l (tc_nf_addTo _ _))))))
    (tc_mt_seq (tc_mt_le (tc_mt_clear hlv 8) (by omega)) (tc_mt_seq (tc_mt_le (tc_mt_clear hlv 9) (by omega)) (tc_mt_seq (tc_mt_le (tc_mt_clear hlv x) (by omega)) (tc_mt_le (tc_mt_pour hlv _ (by omega) (by omega) (by omega)) (by omega))))))))
theorem tc_mt_walkOut (hlv : lv = decide (lev = 1)) : tc_MT lev 3 (tc_walkOut lv) :=
  tc_mt_le (tc_mt_loopN (dp := 1) (tc_mt_seq tc_mt_add (tc_mt_seq (tc_mt_pour hlv _ (by omega) (by omega) (by omega)) (tc_mt_seq (tc_mt_pour hlv _ (by omega) (by omega) (by omega)) (tc_mt_seq tc_mt_add (tc_mt_tok (by decide) (by decide)))))) (tc_nf_r (tc_nf_l (tc_nf_loop _ _ _)))) (by omega)
theorem tc_mt_walkBack (hlv : lv = decide (lev = 1)) : tc_MT lev 3 (tc_walkBack lv) :=
  tc_mt_le (tc_mt_loopN (dp := 1) (tc_mt_seq tc_mt_add (tc_mt_seq (tc_mt_pour hlv _ (by omega) (by omega) (by omega)) (tc_mt_tok (by decide) (by decide)))) (tc_nf_r (tc_nf_l (tc_nf_loop _ _ _)))) (by omega)
theorem tc_mt_fetch (hlv : lv = decide (lev = 1)) {x y : Nat} (hx : x < 6) (hy : y < 6) : tc_MT lev 3 (tc_fetch lv x y) :=
  tc_mt_seq (tc_mt_le (tc_mt_addTo hlv (by omega) (by omega) (by omega) (by omega) (by omega)) (by omega)) (tc_mt_seq (tc_mt_walkOut hlv) (tc_mt_seq
    (tc_mt_le (tc_mt_seq (tc_mt_pour2 hlv (by omega) (by omega) (by omega) (by omega) (by omega) (by omega)) (tc_mt_pour hlv _ (by omega) (by omega) (by omega))) (by omega))
    (tc_mt_seq (tc_mt_walkBack hlv) (tc_mt_seq (tc_mt_le (tc_mt_clear hlv x) (by omega)) (tc_mt_le (tc_mt_pour hlv _ (by omega) (by omega) (by omega)) (by omega))))))
theorem tc_mt_store (hlv : lv = decide (lev = 1)) {x y : Nat} (hx : x < 6) (hy : y < 6) : tc_MT lev 3 (tc_store lv x y) :=
  tc_mt_seq (tc_mt_le (tc_mt_addTo hlv (by omega) (by omega) (by omega) (by omega) (by omega)) (by omega)) (tc_mt_seq (tc_mt_le (tc_mt_addTo hlv (by omega) (by omega) (by omega) (by omega) (by omega)) (by omega)) (tc_mt_seq (tc_mt_walkOut hlv) (tc_mt_seq (tc_mt_le (tc_mt_clear hlv 17) (by omega)) (tc_mt_seq (tc_mt_le (tc_mt_pour hlv _ (by omega) (by omega) (by omega)) (by omega)) (tc_mt_walkBack hlv)))))
theorem tc_mt_simple (hlv : lv = decide (lev = 1)) {k x y z : Nat} (hx : x < 6) (hy : k ≠ 0 → k ≠ 9 → y < 6) (hz : k = 4 ∨ k = 5 ∨ k = 6 ∨ 9 < k → z < 6) : tc_MT lev 3 (tc_simple lv k x y z) ∧ tc_Nf (tc_simple lv k x y z) := by
  unfold tc_simple
  by_cases k0 : k = 0
  · rw [if_pos k0]
    exact ⟨tc_mt_le (dp := 1) (tc_mt_seq (tc_mt_clear hlv x) tc_mt_add) (by omega), tc_nf_l (tc_nf_clear _)⟩
  rw [if_neg k0]
  by_cases k9 : k = 9
  · subst k9
    refine ⟨tc_mt_tok (by decide) (by decide), fun p o => ?_⟩
    exact ⟨_, List.mem_append_right _ (List.mem_cons_self), (by decide : (4 : Int32) ≠ 0), (by decide : (4 : Int32) ≠ 1)⟩
  have hy := hy k0 k9
  by_cases k1 : k = 1
  · rw [if_pos k1]
    exact ⟨tc_mt_le (dp := 1) (tc_mt_seq (tc_mt_addTo hlv (by omega) (by omega) (by omega) (by omega) (by omega)) (tc_mt_seq (tc_mt_clear hlv x) (tc_mt_pour hlv _ (by omega) (by omega) (by omega)))) (by omega), tc_nf_l (tc_nf_addTo _ _)⟩
  rw [if_neg k1]
  by_cases k2 : k = 2
  · rw [if_pos k2]
    exact ⟨tc_mt_le (dp := 1) (tc_mt_seq (tc_mt_addTo hlv (by omega) (by omega) (by omega) (by omega) (by omega)) (tc_mt_pour hlv _ (by omega) (by omega) (by omega))) (by omega), tc_nf_l (tc_nf_addTo _ _)⟩
  rw [if_neg k2]
  by_cases k3 : k = 3
  · rw [if_pos k3]
    exact ⟨tc_mt_le (dp := 1) (tc_mt_seq (tc_mt_addTo hlv (by omega) (by omega) (by omega) (by omega) (by omega)) (tc_mt_pour hlv _ (by omega) (by omega) (by omega))) (by omega), tc_nf_l (tc_nf_addTo _ _)⟩
  rw [if_neg k3]
  by_cases k4 : k = 4
  · rw [if_pos k4]
    exact ⟨tc_mt_product hlv hx hy (hz (by omega)), tc_nf_l (tc_nf_addTo _ _)⟩
  rw [if_neg k4]
  by_cases k5 : k = 5
  · rw [if_pos k5]
    exact ⟨tc_mt_less hlv hx hy (hz (by omega)), tc_nf_l (tc_nf_addTo _ _)⟩
  rw [if_neg k5]
  by_cases k6 : k = 6
  · rw [if_pos k6]
    exact ⟨tc_mt_equal hlv hx hy (hz (by omega)), tc_nf_l (tc_nf_addTo _ _)⟩
  rw [if_neg k6]
  by_cases k7 : k = 7
  · rw [if_pos k7]
    exact ⟨tc_mt_fetch hlv hx hy, tc_nf_l (tc_nf_addTo _ _)⟩
  rw [if_neg k7]
  by_cases k8 : k = 8
  · rw [if_pos k8]
    exact ⟨tc_mt_store hlv hx hy, tc_nf_l (tc_nf_addTo _ _)⟩
  rw [if_neg k8, if_neg k9]
  exact ⟨tc_mt_quot hlv hx hy (hz (by omega)), tc_nf_l (tc_nf_addTo _ _)⟩
theorem tc_mt_choose (hlv : lv = decide (lev = 1)) {x ns dp : Nat} {a b : tc_Fr} (hd : 1 ≤ dp) (hx : x < 6) (hns : ns ≤ 1) (ha : tc_MT lev dp a) (hb : tc_MT lev dp b) (nb : tc_Nf b) : tc_MT lev (dp + 1) (tc_choose lv x ns a b) :=
  tc_mt_seq (tc_mt_le (tc_mt_addTo hlv (by omega) (by omega) (by omega) (by omega) (by omega)) (by omega)) (tc_mt_seq tc_mt_add (tc_mt_seq (tc_mt_loopN (tc_mt_seq tc_mt_add (tc_mt_seq (tc_mt_le (tc_mt_clear hlv _) hd) ha)) (tc_nf_r (tc_nf_l (tc_nf_clear _)))) (tc_mt_loopN (tc_mt_seq tc_mt_add hb) (tc_nf_r nb))))
theorem tc_mt_repeat (hlv : lv = decide (lev = 1)) {x ns dp : Nat} {a : tc_Fr} (hd : 1 ≤ dp) (hx : x < 6) (hns : ns ≤ 1) (ha : tc_MT lev dp a) (na : tc_Nf a) : tc_MT lev (dp + 1) (tc_repeat lv x ns a) :=
  tc_mt_seq (tc_mt_le (tc_mt_addTo hlv (by omega) (by omega) (by omega) (by omega) (by omega)) (by omega)) (tc_mt_loopN (tc_mt_seq tc_mt_add ha) (tc_nf_r na))
theorem tc_mt_cd (hlv : lv = decide (lev = 1)) (K X Y Z Wt Nt : Nat → Nat) (n : Nat) (ok : ∀ s, s < n → tc_Ok K X Y Z Wt Nt s) : ∀ (f s ns : Nat), s < n → s < f → ns + Nt s ≤ 2 → tc_MT lev (3 + Nt s) (tc_cd K X Y Z lv f s ns) ∧ tc_Nf (tc_cd K X Y Z lv f s ns) := by
  intro f
  induction f with
  | zero => intro s ns h1 h2; omega
  | succ f ih =>
    intro s ns h1 h2 h3
    obtain ⟨o1, o2, o3, o4, o10, o11, o12, ox, oy0, oy, oz⟩ := ok s h1
    unfold tc_cd
    by_cases k10 : K s = 10
    · rw [if_pos k10]
      obtain ⟨q1, q2, q3, q4, q5⟩ := o10 k10
      have a1 := ih (X s) ns (by omega) (by omega) (by omega)
      have a2 := ih (Y s) ns (by omega) (by omega) (by omega)
      exact ⟨tc_mt_seq (tc_mt_le a1.1 (by omega)) (tc_mt_le a2.1 (by omega)), tc_nf_l a1.2⟩
    rw [if_neg k10]
    by_cases k11 : K s = 11
    · rw [if_pos k11]
      obtain ⟨q1, q2, q3, q4, q5⟩ := o11 k11
      have a1 := ih (Y s) (ns + 1) (by omega) (by omega) (by omega)
      have a2 := ih (Z s) (ns + 1) (by omega) (by omega) (by omega)
      exact ⟨tc_mt_le (dp := 3 + (Nt s - 1) + 1) (tc_mt_choose hlv (by omega) (ox k10) (by omega) (tc_mt_le a1.1 (by omega)) (tc_mt_le a2.1 (by omega)) a2.2) (by omega), tc_nf_l (tc_nf_addTo _ _)⟩
    rw [if_neg k11]
    by_cases k12 : K s = 12
    · rw [if_pos k12]
      obtain ⟨q1, q2, q3⟩ := o12 k12
      have a1 := ih (Y s) (ns + 1) (by omega) (by omega) (by omega)
      exact ⟨tc_mt_le (dp := 3 + (Nt s - 1) + 1) (tc_mt_repeat hlv (by omega) (ox k10) (by omega) (tc_mt_le a1.1 (by omega)) a1.2) (by omega), tc_nf_l (tc_nf_addTo _ _)⟩
    rw [if_neg k12]
    have := tc_mt_simple (z := Z s) hlv (ox k10) (fun e1 e2 => oy e1 e2 k10 k11 k12) (fun e => oz (by omega))
    exact ⟨tc_mt_le this.1 (by omega), this.2⟩
end
