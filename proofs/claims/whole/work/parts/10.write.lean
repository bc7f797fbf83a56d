/-! part 10: what is written (made by wip/whole/gen10.py) -/
abbrev tc_C : Type := Int32 × Int32 × Int32 × (Nat → Int32) × (Nat → Int32) × (Nat → Int32) × (Nat → Int32) × (Nat → Int32) × (Nat → Int32) × (Nat → Int32) × (Nat → Int32) × (Nat → Int32)
/-- the code so far is that of the tokens T -/
def tc_Wr (C : tc_C) (post : SX → Prop) (T : List tc_Tok) (wt ns : Int32) (tasks : Nat → Int32) : Prop := ∀ ops args : Nat → Int32, tc_pl 0 T < 128 → tc_hold ops args 0 (tc_em 0 T) → post (C.1, C.2.1, C.2.2.1, nI (tc_em 0 (T)).length, nI (tc_pl 0 (T)), wt, ns, C.2.2.2.1, C.2.2.2.2.1, C.2.2.2.2.2.1, C.2.2.2.2.2.2.1, C.2.2.2.2.2.2.2.1, C.2.2.2.2.2.2.2.2.1, C.2.2.2.2.2.2.2.2.2.1, C.2.2.2.2.2.2.2.2.2.2.1, ops, args, tasks, C.2.2.2.2.2.2.2.2.2.2.2)
theorem tc_wr_cast {C : tc_C} {post : SX → Prop} {T T' : List tc_Tok} {wt ns : Int32} {tasks : Nat → Int32} (e : T = T') (hw : tc_Wr C post T' wt ns tasks) : tc_Wr C post T wt ns tasks := e ▸ hw
theorem tc_put {C : tc_C} {post : SX → Prop} {T T' : List tc_Tok} {wt ns : Int32} {tasks ops args : Nat → Int32} (op : Int32) (c : Nat) (n : Int32) (eT : T' = T ++ [(op, c, n)]) (hl : T.length + 1 ≤ 1000) (hc : c < 128) (hw : tc_Wr C post T' wt ns tasks) (hp : tc_pl 0 T < 128) (hh : tc_hold ops args 0 (tc_em 0 T)) : wpX_put post (C.1, C.2.1, C.2.2.1, nI (tc_em 0 (T)).length, nI (tc_pl 0 (T)), wt, ns, C.2.2.2.1, C.2.2.2.2.1, C.2.2.2.2.2.1, C.2.2.2.2.2.2.1, C.2.2.2.2.2.2.2.1, C.2.2.2.2.2.2.2.2.1, C.2.2.2.2.2.2.2.2.2.1, C.2.2.2.2.2.2.2.2.2.2.1, ops, args, tasks, C.2.2.2.2.2.2.2.2.2.2.2) op (nI c) n := by
  subst eT
  have hl2 := tc_em_len T 0
  have ee : tc_em 0 (T ++ [(op, c, n)]) = tc_em 0 T ++ (tc_mv (tc_pl 0 T) c ++ [(op, n)]) := tc_em_app T 0 [(op, c, n)]
  have ep : tc_pl 0 (T ++ [(op, c, n)]) = c := tc_pl_app T 0 [(op, c, n)]
  unfold tc_Wr at hw
  rw [ee, ep] at hw
  generalize tc_em 0 T = E at *
  generalize tc_pl 0 T = q at *
  have cl : (nI E.length).toNatClampNeg = E.length := nI_clamp (by omega)
  have h2 : nI E.length + 2 ≤ 2048 := by
    rw [show (2 : Int32) = nI 2 from rfl, nI_add]
    exact nI_le (b := 2048) (by omega) (by decide)
  unfold wpX_put
  refine br_t h2 ?_
  by_cases e : c = q
  · subst e
    rw [show tc_mv c c = [] from if_pos rfl] at hw
    refine br_t rfl ?_
    unfold wX_put_61
    refine ⟨vp_in_nI (by omega) (by omega), nm_e ⟨vp_in_nI (by omega) (by omega), nm_e (nm_e ?_)⟩⟩
    rw [cl]
    have := hw (upd ops E.length op) (upd args E.length n) hc ?_
    · rw [show (E ++ (([] : List tc_Raw) ++ [(op, n)])).length = E.length + 1 from by simp] at this
      rw [nI_1]
      exact this
    · rw [tc_hold_app]
      refine ⟨tc_hold_congr _ _ (fun j j1 j2 => ⟨pk_un (by omega), pk_un (by omega)⟩) hh, ?_⟩
      rw [Nat.zero_add]
      exact ⟨pk_us, pk_us, trivial⟩
  · have ne : ¬ nI c = nI q := fun h => e ((nI_eq (by omega) (by omega)).mp h)
    rw [show tc_mv q c = [(0, nI c - nI q)] from if_neg e] at hw
    refine br_f ne ?_
    refine ⟨vp_in_nI (by omega) (by omega), nm_e ⟨vp_in_nI (by omega) (by omega), nm_e (nm_e ?_)⟩⟩
    rw [cl, nI_1]
    have cl1 : (nI (E.length + 1)).toNatClampNeg = E.length + 1 := nI_clamp (by omega)
    unfold wX_put_61
    refine ⟨vp_in_nI (by omega) (by omega), nm_e ⟨vp_in_nI (by omega) (by omega), nm_e (nm_e ?_)⟩⟩
    rw [cl1]
    have := hw (upd (upd ops E.length 0) (E.length + 1) op) (upd (upd args E.length (nI c - nI q)) (E.length + 1) n) hc ?_
    · rw [show (E ++ ([((0, nI c - nI q) : tc_Raw)] ++ [(op, n)])).length = E.length + 1 + 1 from by simp] at this
      rw [nI_1]
      exact this
    · rw [tc_hold_app]
      refine ⟨tc_hold_congr _ _ (fun j j1 j2 => ⟨by rw [pk_un (by omega), pk_un (by omega)], by rw [pk_un (by omega), pk_un (by omega)]⟩) hh, ?_⟩
      rw [Nat.zero_add]
      exact ⟨by rw [pk_un (by omega), pk_us], by rw [pk_un (by omega), pk_us], pk_us, pk_us, trivial⟩
theorem tc_ln_clear (lv : Bool) (c : Nat) : (tc_clear lv c).1.length = 3 := rfl
theorem tc_ln_pour (lv : Bool) (c d : Nat) (n : Int32) : (tc_pour lv c d n).1.length = 4 := rfl
theorem tc_ln_addTo (lv : Bool) (c d : Nat) : (tc_addTo lv c d).1.length = 9 := rfl
theorem tc_ln_walkOut (lv : Bool) : (tc_walkOut lv ).1.length = 13 := rfl
theorem tc_ln_walkBack (lv : Bool) : (tc_walkBack lv ).1.length = 8 := rfl
theorem tc_ln_lift (lv : Bool) : (tc_lift lv ).1.length = 9 := rfl
theorem tc_eclear (T : List tc_Tok) (lv : Bool) (c : Nat) : T ++ [(2, c, 0)] ++ [(1, c, (-1))] ++ [(3, c, 0)] = T ++ (tc_clear lv c).1 := by
  simp only [tc_clear, tc_seq, tc_loop, tc_tok, List.append_assoc, List.cons_append, List.nil_append]
theorem tc_wclear {C : tc_C} {post : SX → Prop} {T T' : List tc_Tok} {wt ns : Int32} {tasks ops args : Nat → Int32} (lv : Bool) (c : Nat) (eT : T' = T ++ (tc_clear lv c).1) (hl : T.length + 3 ≤ 1000) (hc : c < 128) (hw : tc_Wr C post T' wt ns tasks) (hp : tc_pl 0 T < 128) (hh : tc_hold ops args 0 (tc_em 0 T)) : wpX_clear post (C.1, C.2.1, C.2.2.1, nI (tc_em 0 (T)).length, nI (tc_pl 0 (T)), wt, ns, C.2.2.2.1, C.2.2.2.2.1, C.2.2.2.2.2.1, C.2.2.2.2.2.2.1, C.2.2.2.2.2.2.2.1, C.2.2.2.2.2.2.2.2.1, C.2.2.2.2.2.2.2.2.2.1, C.2.2.2.2.2.2.2.2.2.2.1, ops, args, tasks, C.2.2.2.2.2.2.2.2.2.2.2) (nI c) := by
  subst eT
  have bb_c : c < 128 := by omega
  obtain ⟨T1, e1⟩ : ∃ S : List tc_Tok, S = T ++ [(2, c, 0)] := ⟨_, rfl⟩
  have m1 : T1.length = T.length + 1 := by rw [e1, List.length_append]; rfl
  have l0 : T.length + 1 ≤ 1000 := by omega
  obtain ⟨T2, e2⟩ : ∃ S : List tc_Tok, S = T1 ++ [(1, c, (-1))] := ⟨_, rfl⟩
  have m2 : T2.length = T1.length + 1 := by rw [e2, List.length_append]; rfl
  have l1 : T1.length + 1 ≤ 1000 := by omega
  obtain ⟨T3, e3⟩ : ∃ S : List tc_Tok, S = T2 ++ [(3, c, 0)] := ⟨_, rfl⟩
  have m3 : T3.length = T2.length + 1 := by rw [e3, List.length_append]; rfl
  have l2 : T2.length + 1 ≤ 1000 := by omega
  have en : T3 = T ++ (tc_clear lv c).1 := by rw [e3, e2, e1]; exact tc_eclear T lv c
  have hwn : tc_Wr C post T3 wt ns tasks := tc_wr_cast en hw
  have p0 := hp
  have h0 := hh
  delta wpX_clear
  refine tc_put 2 c 0 e1 l0 bb_c (fun o1 a1 p1 h1 => ?_) p0 h0
  refine tc_put 1 c (-1) e2 l1 bb_c (fun o2 a2 p2 h2 => ?_) p1 h1
  refine tc_put 3 c 0 e3 l2 bb_c (fun o3 a3 p3 h3 => ?_) p2 h2
  exact hwn o3 a3 p3 h3
theorem tc_epour (T : List tc_Tok) (lv : Bool) (c d : Nat) (n : Int32) : T ++ [(2, c, 0)] ++ [(1, c, (-1))] ++ [(1, d, n)] ++ [(3, c, 0)] = T ++ (tc_pour lv c d n).1 := by
  simp only [tc_pour, tc_seq, tc_loop, tc_tok, List.append_assoc, List.cons_append, List.nil_append]
theorem tc_wpour {C : tc_C} {post : SX → Prop} {T T' : List tc_Tok} {wt ns : Int32} {tasks ops args : Nat → Int32} (lv : Bool) (c d : Nat) (n : Int32) (eT : T' = T ++ (tc_pour lv c d n).1) (hl : T.length + 4 ≤ 1000) (hc : c < 128) (hd : d < 128) (hw : tc_Wr C post T' wt ns tasks) (hp : tc_pl 0 T < 128) (hh : tc_hold ops args 0 (tc_em 0 T)) : wpX_pour post (C.1, C.2.1, C.2.2.1, nI (tc_em 0 (T)).length, nI (tc_pl 0 (T)), wt, ns, C.2.2.2.1, C.2.2.2.2.1, C.2.2.2.2.2.1, C.2.2.2.2.2.2.1, C.2.2.2.2.2.2.2.1, C.2.2.2.2.2.2.2.2.1, C.2.2.2.2.2.2.2.2.2.1, C.2.2.2.2.2.2.2.2.2.2.1, ops, args, tasks, C.2.2.2.2.2.2.2.2.2.2.2) (nI c) (nI d) n := by
  subst eT
  have bb_c : c < 128 := by omega
  have bb_d : d < 128 := by omega
  obtain ⟨T1, e1⟩ : ∃ S : List tc_Tok, S = T ++ [(2, c, 0)] := ⟨_, rfl⟩
  have m1 : T1.length = T.length + 1 := by rw [e1, List.length_append]; rfl
  have l0 : T.length + 1 ≤ 1000 := by omega
  obtain ⟨T2, e2⟩ : ∃ S : List tc_Tok, S = T1 ++ [(1, c, (-1))] := ⟨_, rfl⟩
  have m2 : T2.length = T1.length + 1 := by rw [e2, List.length_append]; rfl
  have l1 : T1.length + 1 ≤ 1000 := by omega
  obtain ⟨T3, e3⟩ : ∃ S : List tc_Tok, S = T2 ++ [(1, d, n)] := ⟨_, rfl⟩
  have m3 : T3.length = T2.length + 1 := by rw [e3, List.length_append]; rfl
  have l2 : T2.length + 1 ≤ 1000 := by omega
  obtain ⟨T4, e4⟩ : ∃ S : List tc_Tok, S = T3 ++ [(3, c, 0)] := ⟨_, rfl⟩
  have m4 : T4.length = T3.length + 1 := by rw [e4, List.length_append]; rfl
  have l3 : T3.length + 1 ≤ 1000 := by omega
  have en : T4 = T ++ (tc_pour lv c d n).1 := by rw [e4, e3, e2, e1]; exact tc_epour T lv c d n
  have hwn : tc_Wr C post T4 wt ns tasks := tc_wr_cast en hw
  have p0 := hp
  have h0 := hh
  delta wpX_pour
  refine tc_put 2 c 0 e1 l0 bb_c (fun o1 a1 p1 h1 => ?_) p0 h0
  refine tc_put 1 c (-1) e2 l1 bb_c (fun o2 a2 p2 h2 => ?_) p1 h1
  refine tc_put 1 d n e3 l2 bb_d (fun o3 a3 p3 h3 => ?_) p2 h2
  refine tc_put 3 c 0 e4 l3 bb_c (fun o4 a4 p4 h4 => ?_) p3 h3
  exact hwn o4 a4 p4 h4
theorem tc_eaddTo (T : List tc_Tok) (lv : Bool) (c d : Nat) : T ++ [(2, c, 0)] ++ [(1, c, (-1))] ++ [(1, d, 1)] ++ [(1, 6, 1)] ++ [(3, c, 0)] ++ [(2, 6, 0)] ++ [(1, 6, (-1))] ++ [(1, c, 1)] ++ [(3, 6, 0)] = T ++ (tc_addTo lv c d).1 := by
  simp only [tc_addTo, tc_pour2, tc_pour, tc_clear, tc_seq, tc_loop, tc_tok, List.append_assoc, List.cons_append, List.nil_append]
theorem tc_waddTo {C : tc_C} {post : SX → Prop} {T T' : List tc_Tok} {wt ns : Int32} {tasks ops args : Nat → Int32} (lv : Bool) (c d : Nat) (eT : T' = T ++ (tc_addTo lv c d).1) (hl : T.length + 9 ≤ 1000) (hc : c < 128) (hd : d < 128) (hw : tc_Wr C post T' wt ns tasks) (hp : tc_pl 0 T < 128) (hh : tc_hold ops args 0 (tc_em 0 T)) : wpX_addTo post (C.1, C.2.1, C.2.2.1, nI (tc_em 0 (T)).length, nI (tc_pl 0 (T)), wt, ns, C.2.2.2.1, C.2.2.2.2.1, C.2.2.2.2.2.1, C.2.2.2.2.2.2.1, C.2.2.2.2.2.2.2.1, C.2.2.2.2.2.2.2.2.1, C.2.2.2.2.2.2.2.2.2.1, C.2.2.2.2.2.2.2.2.2.2.1, ops, args, tasks, C.2.2.2.2.2.2.2.2.2.2.2) (nI c) (nI d) := by
  subst eT
  have bb_6 : 6 < 128 := by omega
  have bb_c : c < 128 := by omega
  have bb_d : d < 128 := by omega
  obtain ⟨T1, e1⟩ : ∃ S : List tc_Tok, S = T ++ [(2, c, 0)] := ⟨_, rfl⟩
  have m1 : T1.length = T.length + 1 := by rw [e1, List.length_append]; rfl
  have l0 : T.length + 1 ≤ 1000 := by omega
  obtain ⟨T2, e2⟩ : ∃ S : List tc_Tok, S = T1 ++ [(1, c, (-1))] := ⟨_, rfl⟩
  have m2 : T2.length = T1.length + 1 := by rw [e2, List.length_append]; rfl
  have l1 : T1.length + 1 ≤ 1000 := by omega
  obtain ⟨T3, e3⟩ : ∃ S : List tc_Tok, S = T2 ++ [(1, d, 1)] := ⟨_, rfl⟩
  have m3 : T3.length = T2.length + 1 := by rw [e3, List.length_append]; rfl
  have l2 : T2.length + 1 ≤ 1000 := by omega
  obtain ⟨T4, e4⟩ : ∃ S : List tc_Tok, S = T3 ++ [(1, 6, 1)] := ⟨_, rfl⟩
  have m4 : T4.length = T3.length + 1 := by rw [e4, List.length_append]; rfl
  have l3 : T3.length + 1 ≤ 1000 := by omega
  obtain ⟨T5, e5⟩ : ∃ S : List tc_Tok, S = T4 ++ [(3, c, 0)] := ⟨_, rfl⟩
  have m5 : T5.length = T4.length + 1 := by rw [e5, List.length_append]; rfl
  have l4 : T4.length + 1 ≤ 1000 := by omega
  obtain ⟨T6, e6⟩ : ∃ S : List tc_Tok, S = T5 ++ [(2, 6, 0)] := ⟨_, rfl⟩
  have m6 : T6.length = T5.length + 1 := by rw [e6, List.length_append]; rfl
  have l5 : T5.length + 1 ≤ 1000 := by omega
  obtain ⟨T7, e7⟩ : ∃ S : List tc_Tok, S = T6 ++ [(1, 6, (-1))] := ⟨_, rfl⟩
  have m7 : T7.length = T6.length + 1 := by rw [e7, List.length_append]; rfl
  have l6 : T6.length + 1 ≤ 1000 := by omega
  obtain ⟨T8, e8⟩ : ∃ S : List tc_Tok, S = T7 ++ [(1, c, 1)] := ⟨_, rfl⟩
  have m8 : T8.length = T7.length + 1 := by rw [e8, List.length_append]; rfl
  have l7 : T7.length + 1 ≤ 1000 := by omega
  obtain ⟨T9, e9⟩ : ∃ S : List tc_Tok, S = T8 ++ [(3, 6, 0)] := ⟨_, rfl⟩
  have m9 : T9.length = T8.length + 1 := by rw [e9, List.length_append]; rfl
  have l8 : T8.length + 1 ≤ 1000 := by omega
  have en : T9 = T ++ (tc_addTo lv c d).1 := by rw [e9, e8, e7, e6, e5, e4, e3, e2, e1]; exact tc_eaddTo T lv c d
  have hwn : tc_Wr C post T9 wt ns tasks := tc_wr_cast en hw
  have p0 := hp
  have h0 := hh
  delta wpX_addTo
  refine tc_put 2 c 0 e1 l0 bb_c (fun o1 a1 p1 h1 => ?_) p0 h0
  refine tc_put 1 c (-1) e2 l1 bb_c (fun o2 a2 p2 h2 => ?_) p1 h1
  refine tc_put 1 d 1 e3 l2 bb_d (fun o3 a3 p3 h3 => ?_) p2 h2
  refine tc_put 1 6 1 e4 l3 bb_6 (fun o4 a4 p4 h4 => ?_) p3 h3
  refine tc_put 3 c 0 e5 l4 bb_c (fun o5 a5 p5 h5 => ?_) p4 h4
  refine tc_put 2 6 0 e6 l5 bb_6 (fun o6 a6 p6 h6 => ?_) p5 h5
  refine tc_put 1 6 (-1) e7 l6 bb_6 (fun o7 a7 p7 h7 => ?_) p6 h6
  refine tc_put 1 c 1 e8 l7 bb_c (fun o8 a8 p8 h8 => ?_) p7 h7
  refine tc_put 3 6 0 e9 l8 bb_6 (fun o9 a9 p9 h9 => ?_) p8 h8
  exact hwn o9 a9 p9 h9
theorem tc_ewalkOut (T : List tc_Tok) (lv : Bool)  : T ++ [(2, 18, 0)] ++ [(1, 18, (-1))] ++ (tc_pour lv 18 22 1).1 ++ (tc_pour lv 19 23 1).1 ++ [(1, 24, 1)] ++ [(0, 18, 4)] ++ [(3, 18, 0)] = T ++ (tc_walkOut lv).1 := by
  simp only [tc_walkOut, tc_seq, tc_loop, tc_tok, List.append_assoc, List.cons_append, List.nil_append]
theorem tc_wwalkOut {C : tc_C} {post : SX → Prop} {T T' : List tc_Tok} {wt ns : Int32} {tasks ops args : Nat → Int32} (lv : Bool)  (eT : T' = T ++ (tc_walkOut lv).1) (hl : T.length + 13 ≤ 1000)  (hw : tc_Wr C post T' wt ns tasks) (hp : tc_pl 0 T < 128) (hh : tc_hold ops args 0 (tc_em 0 T)) : wpX_walkOut post (C.1, C.2.1, C.2.2.1, nI (tc_em 0 (T)).length, nI (tc_pl 0 (T)), wt, ns, C.2.2.2.1, C.2.2.2.2.1, C.2.2.2.2.2.1, C.2.2.2.2.2.2.1, C.2.2.2.2.2.2.2.1, C.2.2.2.2.2.2.2.2.1, C.2.2.2.2.2.2.2.2.2.1, C.2.2.2.2.2.2.2.2.2.2.1, ops, args, tasks, C.2.2.2.2.2.2.2.2.2.2.2)  := by
  subst eT
  have bb_18 : 18 < 128 := by omega
  have bb_19 : 19 < 128 := by omega
  have bb_22 : 22 < 128 := by omega
  have bb_23 : 23 < 128 := by omega
  have bb_24 : 24 < 128 := by omega
  obtain ⟨T1, e1⟩ : ∃ S : List tc_Tok, S = T ++ [(2, 18, 0)] := ⟨_, rfl⟩
  have m1 : T1.length = T.length + 1 := by rw [e1, List.length_append]; rfl
  have l0 : T.length + 1 ≤ 1000 := by omega
  obtain ⟨T2, e2⟩ : ∃ S : List tc_Tok, S = T1 ++ [(1, 18, (-1))] := ⟨_, rfl⟩
  have m2 : T2.length = T1.length + 1 := by rw [e2, List.length_append]; rfl
  have l1 : T1.length + 1 ≤ 1000 := by omega
  obtain ⟨T3, e3⟩ : ∃ S : List tc_Tok, S = T2 ++ (tc_pour lv 18 22 1).1 := ⟨_, rfl⟩
  have m3 : T3.length = T2.length + 4 := by rw [e3, List.length_append]; rfl
  have l2 : T2.length + 4 ≤ 1000 := by omega
  obtain ⟨T4, e4⟩ : ∃ S : List tc_Tok, S = T3 ++ (tc_pour lv 19 23 1).1 := ⟨_, rfl⟩
  have m4 : T4.length = T3.length + 4 := by rw [e4, List.length_append]; rfl
  have l3 : T3.length + 4 ≤ 1000 := by omega
  obtain ⟨T5, e5⟩ : ∃ S : List tc_Tok, S = T4 ++ [(1, 24, 1)] := ⟨_, rfl⟩
  have m5 : T5.length = T4.length + 1 := by rw [e5, List.length_append]; rfl
  have l4 : T4.length + 1 ≤ 1000 := by omega
  obtain ⟨T6, e6⟩ : ∃ S : List tc_Tok, S = T5 ++ [(0, 18, 4)] := ⟨_, rfl⟩
  have m6 : T6.length = T5.length + 1 := by rw [e6, List.length_append]; rfl
  have l5 : T5.length + 1 ≤ 1000 := by omega
  obtain ⟨T7, e7⟩ : ∃ S : List tc_Tok, S = T6 ++ [(3, 18, 0)] := ⟨_, rfl⟩
  have m7 : T7.length = T6.length + 1 := by rw [e7, List.length_append]; rfl
  have l6 : T6.length + 1 ≤ 1000 := by omega
  have en : T7 = T ++ (tc_walkOut lv).1 := by rw [e7, e6, e5, e4, e3, e2, e1]; exact tc_ewalkOut T lv 
  have hwn : tc_Wr C post T7 wt ns tasks := tc_wr_cast en hw
  have p0 := hp
  have h0 := hh
  delta wpX_walkOut
  refine tc_put 2 18 0 e1 l0 bb_18 (fun o1 a1 p1 h1 => ?_) p0 h0
  refine tc_put 1 18 (-1) e2 l1 bb_18 (fun o2 a2 p2 h2 => ?_) p1 h1
  refine tc_wpour lv 18 22 1 e3 l2 bb_18 bb_22 (fun o3 a3 p3 h3 => ?_) p2 h2
  refine tc_wpour lv 19 23 1 e4 l3 bb_19 bb_23 (fun o4 a4 p4 h4 => ?_) p3 h3
  refine tc_put 1 24 1 e5 l4 bb_24 (fun o5 a5 p5 h5 => ?_) p4 h4
  refine tc_put 0 18 4 e6 l5 bb_18 (fun o6 a6 p6 h6 => ?_) p5 h5
  refine tc_put 3 18 0 e7 l6 bb_18 (fun o7 a7 p7 h7 => ?_) p6 h6
  exact hwn o7 a7 p7 h7
theorem tc_ewalkBack (T : List tc_Tok) (lv : Bool)  : T ++ [(2, 20, 0)] ++ [(1, 20, (-1))] ++ (tc_pour lv 19 15 1).1 ++ [(0, 20, (-4))] ++ [(3, 20, 0)] = T ++ (tc_walkBack lv).1 := by
  simp only [tc_walkBack, tc_seq, tc_loop, tc_tok, List.append_assoc, List.cons_append, List.nil_append]
theorem tc_wwalkBack {C : tc_C} {post : SX → Prop} {T T' : List tc_Tok} {wt ns : Int32} {tasks ops args : Nat → Int32} (lv : Bool)  (eT : T' = T ++ (tc_walkBack lv).1) (hl : T.length + 8 ≤ 1000)  (hw : tc_Wr C post T' wt ns tasks) (hp : tc_pl 0 T < 128) (hh : tc_hold ops args 0 (tc_em 0 T)) : wpX_walkBack post (C.1, C.2.1, C.2.2.1, nI (tc_em 0 (T)).length, nI (tc_pl 0 (T)), wt, ns, C.2.2.2.1, C.2.2.2.2.1, C.2.2.2.2.2.1, C.2.2.2.2.2.2.1, C.2.2.2.2.2.2.2.1, C.2.2.2.2.2.2.2.2.1, C.2.2.2.2.2.2.2.2.2.1, C.2.2.2.2.2.2.2.2.2.2.1, ops, args, tasks, C.2.2.2.2.2.2.2.2.2.2.2)  := by
  subst eT
  have bb_15 : 15 < 128 := by omega
  have bb_19 : 19 < 128 := by omega
  have bb_20 : 20 < 128 := by omega
  obtain ⟨T1, e1⟩ : ∃ S : List tc_Tok, S = T ++ [(2, 20, 0)] := ⟨_, rfl⟩
  have m1 : T1.length = T.length + 1 := by rw [e1, List.length_append]; rfl
  have l0 : T.length + 1 ≤ 1000 := by omega
  obtain ⟨T2, e2⟩ : ∃ S : List tc_Tok, S = T1 ++ [(1, 20, (-1))] := ⟨_, rfl⟩
  have m2 : T2.length = T1.length + 1 := by rw [e2, List.length_append]; rfl
  have l1 : T1.length + 1 ≤ 1000 := by omega
  obtain ⟨T3, e3⟩ : ∃ S : List tc_Tok, S = T2 ++ (tc_pour lv 19 15 1).1 := ⟨_, rfl⟩
  have m3 : T3.length = T2.length + 4 := by rw [e3, List.length_append]; rfl
  have l2 : T2.length + 4 ≤ 1000 := by omega
  obtain ⟨T4, e4⟩ : ∃ S : List tc_Tok, S = T3 ++ [(0, 20, (-4))] := ⟨_, rfl⟩
  have m4 : T4.length = T3.length + 1 := by rw [e4, List.length_append]; rfl
  have l3 : T3.length + 1 ≤ 1000 := by omega
  obtain ⟨T5, e5⟩ : ∃ S : List tc_Tok, S = T4 ++ [(3, 20, 0)] := ⟨_, rfl⟩
  have m5 : T5.length = T4.length + 1 := by rw [e5, List.length_append]; rfl
  have l4 : T4.length + 1 ≤ 1000 := by omega
  have en : T5 = T ++ (tc_walkBack lv).1 := by rw [e5, e4, e3, e2, e1]; exact tc_ewalkBack T lv 
  have hwn : tc_Wr C post T5 wt ns tasks := tc_wr_cast en hw
  have p0 := hp
  have h0 := hh
  delta wpX_walkBack
  refine tc_put 2 20 0 e1 l0 bb_20 (fun o1 a1 p1 h1 => ?_) p0 h0
  refine tc_put 1 20 (-1) e2 l1 bb_20 (fun o2 a2 p2 h2 => ?_) p1 h1
  refine tc_wpour lv 19 15 1 e3 l2 bb_19 bb_15 (fun o3 a3 p3 h3 => ?_) p2 h2
  refine tc_put 0 20 (-4) e4 l3 bb_20 (fun o4 a4 p4 h4 => ?_) p3 h3
  refine tc_put 3 20 0 e5 l4 bb_20 (fun o5 a5 p5 h5 => ?_) p4 h4
  exact hwn o5 a5 p5 h5
theorem tc_elift (T : List tc_Tok) (lv : Bool)  : T ++ [(2, 17, 0)] ++ [(1, 17, (-1))] ++ [(1, 18, 1)] ++ [(1, 19, 1)] ++ [(3, 17, 0)] ++ (tc_pour lv 18 17 1).1 = T ++ (tc_lift lv).1 := by
  simp only [tc_lift, tc_pour2, tc_seq, tc_loop, tc_tok, List.append_assoc, List.cons_append, List.nil_append]
theorem tc_wlift {C : tc_C} {post : SX → Prop} {T T' : List tc_Tok} {wt ns : Int32} {tasks ops args : Nat → Int32} (lv : Bool)  (eT : T' = T ++ (tc_lift lv).1) (hl : T.length + 9 ≤ 1000)  (hw : tc_Wr C post T' wt ns tasks) (hp : tc_pl 0 T < 128) (hh : tc_hold ops args 0 (tc_em 0 T)) : wpX_liftElement post (C.1, C.2.1, C.2.2.1, nI (tc_em 0 (T)).length, nI (tc_pl 0 (T)), wt, ns, C.2.2.2.1, C.2.2.2.2.1, C.2.2.2.2.2.1, C.2.2.2.2.2.2.1, C.2.2.2.2.2.2.2.1, C.2.2.2.2.2.2.2.2.1, C.2.2.2.2.2.2.2.2.2.1, C.2.2.2.2.2.2.2.2.2.2.1, ops, args, tasks, C.2.2.2.2.2.2.2.2.2.2.2)  := by
  subst eT
  have bb_17 : 17 < 128 := by omega
  have bb_18 : 18 < 128 := by omega
  have bb_19 : 19 < 128 := by omega
  obtain ⟨T1, e1⟩ : ∃ S : List tc_Tok, S = T ++ [(2, 17, 0)] := ⟨_, rfl⟩
  have m1 : T1.length = T.length + 1 := by rw [e1, List.length_append]; rfl
  have l0 : T.length + 1 ≤ 1000 := by omega
  obtain ⟨T2, e2⟩ : ∃ S : List tc_Tok, S = T1 ++ [(1, 17, (-1))] := ⟨_, rfl⟩
  have m2 : T2.length = T1.length + 1 := by rw [e2, List.length_append]; rfl
  have l1 : T1.length + 1 ≤ 1000 := by omega
  obtain ⟨T3, e3⟩ : ∃ S : List tc_Tok, S = T2 ++ [(1, 18, 1)] := ⟨_, rfl⟩
  have m3 : T3.length = T2.length + 1 := by rw [e3, List.length_append]; rfl
  have l2 : T2.length + 1 ≤ 1000 := by omega
  obtain ⟨T4, e4⟩ : ∃ S : List tc_Tok, S = T3 ++ [(1, 19, 1)] := ⟨_, rfl⟩
  have m4 : T4.length = T3.length + 1 := by rw [e4, List.length_append]; rfl
  have l3 : T3.length + 1 ≤ 1000 := by omega
  obtain ⟨T5, e5⟩ : ∃ S : List tc_Tok, S = T4 ++ [(3, 17, 0)] := ⟨_, rfl⟩
  have m5 : T5.length = T4.length + 1 := by rw [e5, List.length_append]; rfl
  have l4 : T4.length + 1 ≤ 1000 := by omega
  obtain ⟨T6, e6⟩ : ∃ S : List tc_Tok, S = T5 ++ (tc_pour lv 18 17 1).1 := ⟨_, rfl⟩
  have m6 : T6.length = T5.length + 4 := by rw [e6, List.length_append]; rfl
  have l5 : T5.length + 4 ≤ 1000 := by omega
  have en : T6 = T ++ (tc_lift lv).1 := by rw [e6, e5, e4, e3, e2, e1]; exact tc_elift T lv 
  have hwn : tc_Wr C post T6 wt ns tasks := tc_wr_cast en hw
  have p0 := hp
  have h0 := hh
  delta wpX_liftElement
  refine tc_put 2 17 0 e1 l0 bb_17 (fun o1 a1 p1 h1 => ?_) p0 h0
  refine tc_put 1 17 (-1) e2 l1 bb_17 (fun o2 a2 p2 h2 => ?_) p1 h1
  refine tc_put 1 18 1 e3 l2 bb_18 (fun o3 a3 p3 h3 => ?_) p2 h2
  refine tc_put 1 19 1 e4 l3 bb_19 (fun o4 a4 p4 h4 => ?_) p3 h3
  refine tc_put 3 17 0 e5 l4 bb_17 (fun o5 a5 p5 h5 => ?_) p4 h4
  refine tc_wpour lv 18 17 1 e6 l5 bb_18 bb_17 (fun o6 a6 p6 h6 => ?_) p5 h5
  exact hwn o6 a6 p6 h6
theorem tc_eproduct (T : List tc_Tok) (lv : Bool) (x y z : Nat) : T ++ (tc_addTo lv y 7).1 ++ (tc_addTo lv z 8).1 ++ (tc_clear lv x).1 ++ [(2, 7, 0)] ++ [(1, 7, (-1))] ++ (tc_addTo lv 8 x).1 ++ [(3, 7, 0)] ++ (tc_clear lv 8).1 = T ++ (tc_product lv x y z).1 := by
  simp only [tc_product, tc_seq, tc_loop, tc_tok, List.append_assoc, List.cons_append, List.nil_append]
theorem tc_wproduct {C : tc_C} {post : SX → Prop} {T T' : List tc_Tok} {wt ns : Int32} {tasks ops args : Nat → Int32} (lv : Bool) (x y z : Nat) (eT : T' = T ++ (tc_product lv x y z).1) (hl : T.length + 100 ≤ 1000) (hx : x < 6) (hy : y < 6) (hz : z < 6) (hw : tc_Wr C post T' wt ns tasks) (hp : tc_pl 0 T < 128) (hh : tc_hold ops args 0 (tc_em 0 T)) : wpX_writeProduct post (C.1, C.2.1, C.2.2.1, nI (tc_em 0 (T)).length, nI (tc_pl 0 (T)), wt, ns, C.2.2.2.1, C.2.2.2.2.1, C.2.2.2.2.2.1, C.2.2.2.2.2.2.1, C.2.2.2.2.2.2.2.1, C.2.2.2.2.2.2.2.2.1, C.2.2.2.2.2.2.2.2.2.1, C.2.2.2.2.2.2.2.2.2.2.1, ops, args, tasks, C.2.2.2.2.2.2.2.2.2.2.2) (nI x) (nI y) (nI z) := by
  subst eT
  have bb_7 : 7 < 128 := by omega
  have bb_8 : 8 < 128 := by omega
  have bb_x : x < 128 := by omega
  have bb_y : y < 128 := by omega
  have bb_z : z < 128 := by omega
  obtain ⟨T1, e1⟩ : ∃ S : List tc_Tok, S = T ++ (tc_addTo lv y 7).1 := ⟨_, rfl⟩
  have m1 : T1.length = T.length + 9 := by rw [e1, List.length_append]; rfl
  have l0 : T.length + 9 ≤ 1000 := by omega
  obtain ⟨T2, e2⟩ : ∃ S : List tc_Tok, S = T1 ++ (tc_addTo lv z 8).1 := ⟨_, rfl⟩
  have m2 : T2.length = T1.length + 9 := by rw [e2, List.length_append]; rfl
  have l1 : T1.length + 9 ≤ 1000 := by omega
  obtain ⟨T3, e3⟩ : ∃ S : List tc_Tok, S = T2 ++ (tc_clear lv x).1 := ⟨_, rfl⟩
  have m3 : T3.length = T2.length + 3 := by rw [e3, List.length_append]; rfl
  have l2 : T2.length + 3 ≤ 1000 := by omega
  obtain ⟨T4, e4⟩ : ∃ S : List tc_Tok, S = T3 ++ [(2, 7, 0)] := ⟨_, rfl⟩
  have m4 : T4.length = T3.length + 1 := by rw [e4, List.length_append]; rfl
  have l3 : T3.length + 1 ≤ 1000 := by omega
  obtain ⟨T5, e5⟩ : ∃ S : List tc_Tok, S = T4 ++ [(1, 7, (-1))] := ⟨_, rfl⟩
  have m5 : T5.length = T4.length + 1 := by rw [e5, List.length_append]; rfl
  have l4 : T4.length + 1 ≤ 1000 := by omega
  obtain ⟨T6, e6⟩ : ∃ S : List tc_Tok, S = T5 ++ (tc_addTo lv 8 x).1 := ⟨_, rfl⟩
  have m6 : T6.length = T5.length + 9 := by rw [e6, List.length_append]; rfl
  have l5 : T5.length + 9 ≤ 1000 := by omega
  obtain ⟨T7, e7⟩ : ∃ S : List tc_Tok, S = T6 ++ [(3, 7, 0)] := ⟨_, rfl⟩
  have m7 : T7.length = T6.length + 1 := by rw [e7, List.length_append]; rfl
  have l6 : T6.length + 1 ≤ 1000 := by omega
  obtain ⟨T8, e8⟩ : ∃ S : List tc_Tok, S = T7 ++ (tc_clear lv 8).1 := ⟨_, rfl⟩
  have m8 : T8.length = T7.length + 3 := by rw [e8, List.length_append]; rfl
  have l7 : T7.length + 3 ≤ 1000 := by omega
  have en : T8 = T ++ (tc_product lv x y z).1 := by rw [e8, e7, e6, e5, e4, e3, e2, e1]; exact tc_eproduct T lv x y z
  have hwn : tc_Wr C post T8 wt ns tasks := tc_wr_cast en hw
  have p0 := hp
  have h0 := hh
  delta wpX_writeProduct
  refine tc_waddTo lv y 7 e1 l0 bb_y bb_7 (fun o1 a1 p1 h1 => ?_) p0 h0
  refine tc_waddTo lv z 8 e2 l1 bb_z bb_8 (fun o2 a2 p2 h2 => ?_) p1 h1
  refine tc_wclear lv x e3 l2 bb_x (fun o3 a3 p3 h3 => ?_) p2 h2
  refine tc_put 2 7 0 e4 l3 bb_7 (fun o4 a4 p4 h4 => ?_) p3 h3
  refine tc_put 1 7 (-1) e5 l4 bb_7 (fun o5 a5 p5 h5 => ?_) p4 h4
  refine tc_waddTo lv 8 x e6 l5 bb_8 bb_x (fun o6 a6 p6 h6 => ?_) p5 h5
  refine tc_put 3 7 0 e7 l6 bb_7 (fun o7 a7 p7 h7 => ?_) p6 h6
  refine tc_wclear lv 8 e8 l7 bb_8 (fun o8 a8 p8 h8 => ?_) p7 h7
  exact hwn o8 a8 p8 h8
theorem tc_eless (T : List tc_Tok) (lv : Bool) (x y z : Nat) : T ++ (tc_addTo lv y 7).1 ++ (tc_addTo lv z 8).1 ++ [(2, 7, 0)] ++ [(1, 7, (-1))] ++ (tc_addTo lv 8 10).1 ++ [(2, 10, 0)] ++ [(1, 8, (-1))] ++ (tc_clear lv 10).1 ++ [(3, 10, 0)] ++ [(3, 7, 0)] ++ (tc_clear lv x).1 ++ [(2, 8, 0)] ++ [(1, x, 1)] ++ (tc_clear lv 8).1 ++ [(3, 8, 0)] = T ++ (tc_less lv x y z).1 := by
  simp only [tc_less, tc_seq, tc_loop, tc_tok, List.append_assoc, List.cons_append, List.nil_append]
theorem tc_wless {C : tc_C} {post : SX → Prop} {T T' : List tc_Tok} {wt ns : Int32} {tasks ops args : Nat → Int32} (lv : Bool) (x y z : Nat) (eT : T' = T ++ (tc_less lv x y z).1) (hl : T.length + 100 ≤ 1000) (hx : x < 6) (hy : y < 6) (hz : z < 6) (hw : tc_Wr C post T' wt ns tasks) (hp : tc_pl 0 T < 128) (hh : tc_hold ops args 0 (tc_em 0 T)) : wpX_writeLess post (C.1, C.2.1, C.2.2.1, nI (tc_em 0 (T)).length, nI (tc_pl 0 (T)), wt, ns, C.2.2.2.1, C.2.2.2.2.1, C.2.2.2.2.2.1, C.2.2.2.2.2.2.1, C.2.2.2.2.2.2.2.1, C.2.2.2.2.2.2.2.2.1, C.2.2.2.2.2.2.2.2.2.1, C.2.2.2.2.2.2.2.2.2.2.1, ops, args, tasks, C.2.2.2.2.2.2.2.2.2.2.2) (nI x) (nI y) (nI z) := by
  subst eT
  have bb_10 : 10 < 128 := by omega
  have bb_7 : 7 < 128 := by omega
  have bb_8 : 8 < 128 := by omega
  have bb_x : x < 128 := by omega
  have bb_y : y < 128 := by omega
  have bb_z : z < 128 := by omega
  obtain ⟨T1, e1⟩ : ∃ S : List tc_Tok, S = T ++ (tc_addTo lv y 7).1 := ⟨_, rfl⟩
  have m1 : T1.length = T.length + 9 := by rw [e1, List.length_append]; rfl
  have l0 : T.length + 9 ≤ 1000 := by omega
  obtain ⟨T2, e2⟩ : ∃ S : List tc_Tok, S = T1 ++ (tc_addTo lv z 8).1 := ⟨_, rfl⟩
  have m2 : T2.length = T1.length + 9 := by rw [e2, List.length_append]; rfl
  have l1 : T1.length + 9 ≤ 1000 := by omega
  obtain ⟨T3, e3⟩ : ∃ S : List tc_Tok, S = T2 ++ [(2, 7, 0)] := ⟨_, rfl⟩
  have m3 : T3.length = T2.length + 1 := by rw [e3, List.length_append]; rfl
  have l2 : T2.length + 1 ≤ 1000 := by omega
  obtain ⟨T4, e4⟩ : ∃ S : List tc_Tok, S = T3 ++ [(1, 7, (-1))] := ⟨_, rfl⟩
  have m4 : T4.length = T3.length + 1 := by rw [e4, List.length_append]; rfl
  have l3 : T3.length + 1 ≤ 1000 := by omega
  obtain ⟨T5, e5⟩ : ∃ S : List tc_Tok, S = T4 ++ (tc_addTo lv 8 10).1 := ⟨_, rfl⟩
  have m5 : T5.length = T4.length + 9 := by rw [e5, List.length_append]; rfl
  have l4 : T4.length + 9 ≤ 1000 := by omega
  obtain ⟨T6, e6⟩ : ∃ S : List tc_Tok, S = T5 ++ [(2, 10, 0)] := ⟨_, rfl⟩
  have m6 : T6.length = T5.length + 1 := by rw [e6, List.length_append]; rfl
  have l5 : T5.length + 1 ≤ 1000 := by omega
  obtain ⟨T7, e7⟩ : ∃ S : List tc_Tok, S = T6 ++ [(1, 8, (-1))] := ⟨_, rfl⟩
  have m7 : T7.length = T6.length + 1 := by rw [e7, List.length_append]; rfl
  have l6 : T6.length + 1 ≤ 1000 := by omega
  obtain ⟨T8, e8⟩ : ∃ S : List tc_Tok, S = T7 ++ (tc_clear lv 10).1 := ⟨_, rfl⟩
  have m8 : T8.length = T7.length + 3 := by rw [e8, List.length_append]; rfl
  have l7 : T7.length + 3 ≤ 1000 := by omega
  obtain ⟨T9, e9⟩ : ∃ S : List tc_Tok, S = T8 ++ [(3, 10, 0)] := ⟨_, rfl⟩
  have m9 : T9.length = T8.length + 1 := by rw [e9, List.length_append]; rfl
  have l8 : T8.length + 1 ≤ 1000 := by omega
  obtain ⟨T10, e10⟩ : ∃ S : List tc_Tok, S = T9 ++ [(3, 7, 0)] := ⟨_, rfl⟩
  have m10 : T10.length = T9.length + 1 := by rw [e10, List.length_append]; rfl
  have l9 : T9.length + 1 ≤ 1000 := by omega
  obtain ⟨T11, e11⟩ : ∃ S : List tc_Tok, S = T10 ++ (tc_clear lv x).1 := ⟨_, rfl⟩
  have m11 : T11.length = T10.length + 3 := by rw [e11, List.length_append]; rfl
  have l10 : T10.length + 3 ≤ 1000 := by omega
  obtain ⟨T12, e12⟩ : ∃ S : List tc_Tok, S = T11 ++ [(2, 8, 0)] := ⟨_, rfl⟩
  have m12 : T12.length = T11.length + 1 := by rw [e12, List.length_append]; rfl
  have l11 : T11.length + 1 ≤ 1000 := by omega
  obtain ⟨T13, e13⟩ : ∃ S : List tc_Tok, S = T12 ++ [(1, x, 1)] := ⟨_, rfl⟩
  have m13 : T13.length = T12.length + 1 := by rw [e13, List.length_append]; rfl
  have l12 : T12.length + 1 ≤ 1000 := by omega
  obtain ⟨T14, e14⟩ : ∃ S : List tc_Tok, S = T13 ++ (tc_clear lv 8).1 := ⟨_, rfl⟩
  have m14 : T14.length = T13.length + 3 := by rw [e14, List.length_append]; rfl
  have l13 : T13.length + 3 ≤ 1000 := by omega
  obtain ⟨T15, e15⟩ : ∃ S : List tc_Tok, S = T14 ++ [(3, 8, 0)] := ⟨_, rfl⟩
  have m15 : T15.length = T14.length + 1 := by rw [e15, List.length_append]; rfl
  have l14 : T14.length + 1 ≤ 1000 := by omega
  have en : T15 = T ++ (tc_less lv x y z).1 := by rw [e15, e14, e13, e12, e11, e10, e9, e8, e7, e6, e5, e4, e3, e2, e1]; exact tc_eless T lv x y z
  have hwn : tc_Wr C post T15 wt ns tasks := tc_wr_cast en hw
  have p0 := hp
  have h0 := hh
  delta wpX_writeLess
  refine tc_waddTo lv y 7 e1 l0 bb_y bb_7 (fun o1 a1 p1 h1 => ?_) p0 h0
  refine tc_waddTo lv z 8 e2 l1 bb_z bb_8 (fun o2 a2 p2 h2 => ?_) p1 h1
  refine tc_put 2 7 0 e3 l2 bb_7 (fun o3 a3 p3 h3 => ?_) p2 h2
  refine tc_put 1 7 (-1) e4 l3 bb_7 (fun o4 a4 p4 h4 => ?_) p3 h3
  refine tc_waddTo lv 8 10 e5 l4 bb_8 bb_10 (fun o5 a5 p5 h5 => ?_) p4 h4
  refine tc_put 2 10 0 e6 l5 bb_10 (fun o6 a6 p6 h6 => ?_) p5 h5
  refine tc_put 1 8 (-1) e7 l6 bb_8 (fun o7 a7 p7 h7 => ?_) p6 h6
  refine tc_wclear lv 10 e8 l7 bb_10 (fun o8 a8 p8 h8 => ?_) p7 h7
  refine tc_put 3 10 0 e9 l8 bb_10 (fun o9 a9 p9 h9 => ?_) p8 h8
  refine tc_put 3 7 0 e10 l9 bb_7 (fun o10 a10 p10 h10 => ?_) p9 h9
  refine tc_wclear lv x e11 l10 bb_x (fun o11 a11 p11 h11 => ?_) p10 h10
  refine tc_put 2 8 0 e12 l11 bb_8 (fun o12 a12 p12 h12 => ?_) p11 h11
  refine tc_put 1 x 1 e13 l12 bb_x (fun o13 a13 p13 h13 => ?_) p12 h12
  refine tc_wclear lv 8 e14 l13 bb_8 (fun o14 a14 p14 h14 => ?_) p13 h13
  refine tc_put 3 8 0 e15 l14 bb_8 (fun o15 a15 p15 h15 => ?_) p14 h14
  exact hwn o15 a15 p15 h15
theorem tc_eequal (T : List tc_Tok) (lv : Bool) (x y z : Nat) : T ++ (tc_addTo lv y 7).1 ++ (tc_addTo lv z 8).1 ++ (tc_pour lv 8 7 (-1)).1 ++ (tc_clear lv x).1 ++ [(1, x, 1)] ++ [(2, 7, 0)] ++ [(1, x, (-1))] ++ (tc_clear lv 7).1 ++ [(3, 7, 0)] = T ++ (tc_equal lv x y z).1 := by
  simp only [tc_equal, tc_seq, tc_loop, tc_tok, List.append_assoc, List.cons_append, List.nil_append]
theorem tc_wequal {C : tc_C} {post : SX → Prop} {T T' : List tc_Tok} {wt ns : Int32} {tasks ops args : Nat → Int32} (lv : Bool) (x y z : Nat) (eT : T' = T ++ (tc_equal lv x y z).1) (hl : T.length + 100 ≤ 1000) (hx : x < 6) (hy : y < 6) (hz : z < 6) (hw : tc_Wr C post T' wt ns tasks) (hp : tc_pl 0 T < 128) (hh : tc_hold ops args 0 (tc_em 0 T)) : wpX_writeEqual post (C.1, C.2.1, C.2.2.1, nI (tc_em 0 (T)).length, nI (tc_pl 0 (T)), wt, ns, C.2.2.2.1, C.2.2.2.2.1, C.2.2.2.2.2.1, C.2.2.2.2.2.2.1, C.2.2.2.2.2.2.2.1, C.2.2.2.2.2.2.2.2.1, C.2.2.2.2.2.2.2.2.2.1, C.2.2.2.2.2.2.2.2.2.2.1, ops, args, tasks, C.2.2.2.2.2.2.2.2.2.2.2) (nI x) (nI y) (nI z) := by
  subst eT
  have bb_7 : 7 < 128 := by omega
  have bb_8 : 8 < 128 := by omega
  have bb_x : x < 128 := by omega
  have bb_y : y < 128 := by omega
  have bb_z : z < 128 := by omega
  obtain ⟨T1, e1⟩ : ∃ S : List tc_Tok, S = T ++ (tc_addTo lv y 7).1 := ⟨_, rfl⟩
  have m1 : T1.length = T.length + 9 := by rw [e1, List.length_append]; rfl
  have l0 : T.length + 9 ≤ 1000 := by omega
  obtain ⟨T2, e2⟩ : ∃ S : List tc_Tok, S = T1 ++ (tc_addTo lv z 8).1 := ⟨_, rfl⟩
  have m2 : T2.length = T1.length + 9 := by rw [e2, List.length_append]; rfl
  have l1 : T1.length + 9 ≤ 1000 := by omega
  obtain ⟨T3, e3⟩ : ∃ S : List tc_Tok, S = T2 ++ (tc_pour lv 8 7 (-1)).1 := ⟨_, rfl⟩
  have m3 : T3.length = T2.length + 4 := by rw [e3, List.length_append]; rfl
  have l2 : T2.length + 4 ≤ 1000 := by omega
  obtain ⟨T4, e4⟩ : ∃ S : List tc_Tok, S = T3 ++ (tc_clear lv x).1 := ⟨_, rfl⟩
  have m4 : T4.length = T3.length + 3 := by rw [e4, List.length_append]; rfl
  have l3 : T3.length + 3 ≤ 1000 := by omega
  obtain ⟨T5, e5⟩ : ∃ S : List tc_Tok, S = T4 ++ [(1, x, 1)] := ⟨_, rfl⟩
  have m5 : T5.length = T4.length + 1 := by rw [e5, List.length_append]; rfl
  have l4 : T4.length + 1 ≤ 1000 := by omega
  obtain ⟨T6, e6⟩ : ∃ S : List tc_Tok, S = T5 ++ [(2, 7, 0)] := ⟨_, rfl⟩
  have m6 : T6.length = T5.length + 1 := by rw [e6, List.length_append]; rfl
  have l5 : T5.length + 1 ≤ 1000 := by omega
  obtain ⟨T7, e7⟩ : ∃ S : List tc_Tok, S = T6 ++ [(1, x, (-1))] := ⟨_, rfl⟩
  have m7 : T7.length = T6.length + 1 := by rw [e7, List.length_append]; rfl
  have l6 : T6.length + 1 ≤ 1000 := by omega
  obtain ⟨T8, e8⟩ : ∃ S : List tc_Tok, S = T7 ++ (tc_clear lv 7).1 := ⟨_, rfl⟩
  have m8 : T8.length = T7.length + 3 := by rw [e8, List.length_append]; rfl
  have l7 : T7.length + 3 ≤ 1000 := by omega
  obtain ⟨T9, e9⟩ : ∃ S : List tc_Tok, S = T8 ++ [(3, 7, 0)] := ⟨_, rfl⟩
  have m9 : T9.length = T8.length + 1 := by rw [e9, List.length_append]; rfl
  have l8 : T8.length + 1 ≤ 1000 := by omega
  have en : T9 = T ++ (tc_equal lv x y z).1 := by rw [e9, e8, e7, e6, e5, e4, e3, e2, e1]; exact tc_eequal T lv x y z
  have hwn : tc_Wr C post T9 wt ns tasks := tc_wr_cast en hw
  have p0 := hp
  have h0 := hh
  delta wpX_writeEqual
  refine tc_waddTo lv y 7 e1 l0 bb_y bb_7 (fun o1 a1 p1 h1 => ?_) p0 h0
  refine tc_waddTo lv z 8 e2 l1 bb_z bb_8 (fun o2 a2 p2 h2 => ?_) p1 h1
  refine tc_wpour lv 8 7 (-1) e3 l2 bb_8 bb_7 (fun o3 a3 p3 h3 => ?_) p2 h2
  refine tc_wclear lv x e4 l3 bb_x (fun o4 a4 p4 h4 => ?_) p3 h3
  refine tc_put 1 x 1 e5 l4 bb_x (fun o5 a5 p5 h5 => ?_) p4 h4
  refine tc_put 2 7 0 e6 l5 bb_7 (fun o6 a6 p6 h6 => ?_) p5 h5
  refine tc_put 1 x (-1) e7 l6 bb_x (fun o7 a7 p7 h7 => ?_) p6 h6
  refine tc_wclear lv 7 e8 l7 bb_7 (fun o8 a8 p8 h8 => ?_) p7 h7
  refine tc_put 3 7 0 e9 l8 bb_7 (fun o9 a9 p9 h9 => ?_) p8 h8
  exact hwn o9 a9 p9 h9
theorem tc_equot (T : List tc_Tok) (lv : Bool) (x y z : Nat) : T ++ (tc_addTo lv y 7).1 ++ (tc_addTo lv z 8).1 ++ (tc_addTo lv 8 9).1 ++ [(2, 7, 0)] ++ [(1, 7, (-1))] ++ [(1, 9, (-1))] ++ [(1, 10, 1)] ++ (tc_addTo lv 9 11).1 ++ [(2, 11, 0)] ++ [(1, 10, (-1))] ++ (tc_clear lv 11).1 ++ [(3, 11, 0)] ++ [(2, 10, 0)] ++ [(1, 10, (-1))] ++ [(1, 12, 1)] ++ (tc_addTo lv 8 9).1 ++ [(3, 10, 0)] ++ [(3, 7, 0)] ++ (tc_clear lv 8).1 ++ (tc_clear lv 9).1 ++ (tc_clear lv x).1 ++ (tc_pour lv 12 x 1).1 = T ++ (tc_quot lv x y z).1 := by
  simp only [tc_quot, tc_seq, tc_loop, tc_tok, List.append_assoc, List.cons_append, List.nil_append]
theorem tc_wquot {C : tc_C} {post : SX → Prop} {T T' : List tc_Tok} {wt ns : Int32} {tasks ops args : Nat → Int32} (lv : Bool) (x y z : Nat) (eT : T' = T ++ (tc_quot lv x y z).1) (hl : T.length + 100 ≤ 1000) (hx : x < 6) (hy : y < 6) (hz : z < 6) (hw : tc_Wr C post T' wt ns tasks) (hp : tc_pl 0 T < 128) (hh : tc_hold ops args 0 (tc_em 0 T)) : wpX_writeQuotient post (C.1, C.2.1, C.2.2.1, nI (tc_em 0 (T)).length, nI (tc_pl 0 (T)), wt, ns, C.2.2.2.1, C.2.2.2.2.1, C.2.2.2.2.2.1, C.2.2.2.2.2.2.1, C.2.2.2.2.2.2.2.1, C.2.2.2.2.2.2.2.2.1, C.2.2.2.2.2.2.2.2.2.1, C.2.2.2.2.2.2.2.2.2.2.1, ops, args, tasks, C.2.2.2.2.2.2.2.2.2.2.2) (nI x) (nI y) (nI z) := by
  subst eT
  have bb_10 : 10 < 128 := by omega
  have bb_11 : 11 < 128 := by omega
  have bb_12 : 12 < 128 := by omega
  have bb_7 : 7 < 128 := by omega
  have bb_8 : 8 < 128 := by omega
  have bb_9 : 9 < 128 := by omega
  have bb_x : x < 128 := by omega
  have bb_y : y < 128 := by omega
  have bb_z : z < 128 := by omega
  obtain ⟨T1, e1⟩ : ∃ S : List tc_Tok, S = T ++ (tc_addTo lv y 7).1 := ⟨_, rfl⟩
  have m1 : T1.length = T.length + 9 := by rw [e1, List.length_append]; rfl
  have l0 : T.length + 9 ≤ 1000 := by omega
  obtain ⟨T2, e2⟩ : ∃ S : List tc_Tok, S = T1 ++ (tc_addTo lv z 8).1 := ⟨_, rfl⟩
  have m2 : T2.length = T1.length + 9 := by rw [e2, List.length_append]; rfl
  have l1 : T1.length + 9 ≤ 1000 := by omega
  obtain ⟨T3, e3⟩ : ∃ S : List tc_Tok, S = T2 ++ (tc_addTo lv 8 9).1 := ⟨_, rfl⟩
  have m3 : T3.length = T2.length + 9 := by rw [e3, List.length_append]; rfl
  have l2 : T2.length + 9 ≤ 1000 := by omega
  obtain ⟨T4, e4⟩ : ∃ S : List tc_Tok, S = T3 ++ [(2, 7, 0)] := ⟨_, rfl⟩
  have m4 : T4.length = T3.length + 1 := by rw [e4, List.length_append]; rfl
  have l3 : T3.length + 1 ≤ 1000 := by omega
  obtain ⟨T5, e5⟩ : ∃ S : List tc_Tok, S = T4 ++ [(1, 7, (-1))] := ⟨_, rfl⟩
  have m5 : T5.length = T4.length + 1 := by rw [e5, List.length_append]; rfl
  have l4 : T4.length + 1 ≤ 1000 := by omega
  obtain ⟨T6, e6⟩ : ∃ S : List tc_Tok, S = T5 ++ [(1, 9, (-1))] := ⟨_, rfl⟩
  have m6 : T6.length = T5.length + 1 := by rw [e6, List.length_append]; rfl
  have l5 : T5.length + 1 ≤ 1000 := by omega
  obtain ⟨T7, e7⟩ : ∃ S : List tc_Tok, S = T6 ++ [(1, 10, 1)] := ⟨_, rfl⟩
  have m7 : T7.length = T6.length + 1 := by rw [e7, List.length_append]; rfl
  have l6 : T6.length + 1 ≤ 1000 := by omega
  obtain ⟨T8, e8⟩ : ∃ S : List tc_Tok, S = T7 ++ (tc_addTo lv 9 11).1 := ⟨_, rfl⟩
  have m8 : T8.length = T7.length + 9 := by rw [e8, List.length_append]; rfl
  have l7 : T7.length + 9 ≤ 1000 := by omega
  obtain ⟨T9, e9⟩ : ∃ S : List tc_Tok, S = T8 ++ [(2, 11, 0)] := ⟨_, rfl⟩
  have m9 : T9.length = T8.length + 1 := by rw [e9, List.length_append]; rfl
  have l8 : T8.length + 1 ≤ 1000 := by omega
  obtain ⟨T10, e10⟩ : ∃ S : List tc_Tok, S = T9 ++ [(1, 10, (-1))] := ⟨_, rfl⟩
  have m10 : T10.length = T9.length + 1 := by rw [e10, List.length_append]; rfl
  have l9 : T9.length + 1 ≤ 1000 := by omega
  obtain ⟨T11, e11⟩ : ∃ S : List tc_Tok, S = T10 ++ (tc_clear lv 11).1 := ⟨_, rfl⟩
  have m11 : T11.length = T10.length + 3 := by rw [e11, List.length_append]; rfl
  have l10 : T10.length + 3 ≤ 1000 := by omega
  obtain ⟨T12, e12⟩ : ∃ S : List tc_Tok, S = T11 ++ [(3, 11, 0)] := ⟨_, rfl⟩
  have m12 : T12.length = T11.length + 1 := by rw [e12, List.length_append]; rfl
  have l11 : T11.length + 1 ≤ 1000 := by omega
  obtain ⟨T13, e13⟩ : ∃ S : List tc_Tok, S = T12 ++ [(2, 10, 0)] := ⟨_, rfl⟩
  have m13 : T13.length = T12.length + 1 := by rw [e13, List.length_append]; rfl
  have l12 : T12.length + 1 ≤ 1000 := by omega
  obtain ⟨T14, e14⟩ : ∃ S : List tc_Tok, S = T13 ++ [(1, 10, (-1))] := ⟨_, rfl⟩
  have m14 : T14.length = T13.length + 1 := by rw [e14, List.length_append]; rfl
  have l13 : T13.length + 1 ≤ 1000 := by omega
  obtain ⟨T15, e15⟩ : ∃ S : List tc_Tok, S = T14 ++ [(1, 12, 1)] := ⟨_, rfl⟩
  have m15 : T15.length = T14.length + 1 := by rw [e15, List.length_append]; rfl
  have l14 : T14.length + 1 ≤ 1000 := by omega
  obtain ⟨T16, e16⟩ : ∃ S : List tc_Tok, S = T15 ++ (tc_addTo lv 8 9).1 := ⟨_, rfl⟩
  have m16 : T16.length = T15.length + 9 := by rw [e16, List.length_append]; rfl
  have l15 : T15.length + 9 ≤ 1000 := by omega
  obtain ⟨T17, e17⟩ : ∃ S : List tc_Tok, S = T16 ++ [(3, 10, 0)] := ⟨_, rfl⟩
  have m17 : T17.length = T16.length + 1 := by rw [e17, List.length_append]; rfl
  have l16 : T16.length + 1 ≤ 1000 := by omega
  obtain ⟨T18, e18⟩ : ∃ S : List tc_Tok, S = T17 ++ [(3, 7, 0)] := ⟨_, rfl⟩
  have m18 : T18.length = T17.length + 1 := by rw [e18, List.length_append]; rfl
  have l17 : T17.length + 1 ≤ 1000 := by omega
  obtain ⟨T19, e19⟩ : ∃ S : List tc_Tok, S = T18 ++ (tc_clear lv 8).1 := ⟨_, rfl⟩
  have m19 : T19.length = T18.length + 3 := by rw [e19, List.length_append]; rfl
  have l18 : T18.length + 3 ≤ 1000 := by omega
  obtain ⟨T20, e20⟩ : ∃ S : List tc_Tok, S = T19 ++ (tc_clear lv 9).1 := ⟨_, rfl⟩
  have m20 : T20.length = T19.length + 3 := by rw [e20, List.length_append]; rfl
  have l19 : T19.length + 3 ≤ 1000 := by omega
  obtain ⟨T21, e21⟩ : ∃ S : List tc_Tok, S = T20 ++ (tc_clear lv x).1 := ⟨_, rfl⟩
  have m21 : T21.length = T20.length + 3 := by rw [e21, List.length_append]; rfl
  have l20 : T20.length + 3 ≤ 1000 := by omega
  obtain ⟨T22, e22⟩ : ∃ S : List tc_Tok, S = T21 ++ (tc_pour lv 12 x 1).1 := ⟨_, rfl⟩
  have m22 : T22.length = T21.length + 4 := by rw [e22, List.length_append]; rfl
  have l21 : T21.length + 4 ≤ 1000 := by omega
  have en : T22 = T ++ (tc_quot lv x y z).1 := by rw [e22, e21, e20, e19, e18, e17, e16, e15, e14, e13, e12, e11, e10, e9, e8, e7, e6, e5, e4, e3, e2, e1]; exact tc_equot T lv x y z
  have hwn : tc_Wr C post T22 wt ns tasks := tc_wr_cast en hw
  have p0 := hp
  have h0 := hh
  delta wpX_writeQuotient
  refine tc_waddTo lv y 7 e1 l0 bb_y bb_7 (fun o1 a1 p1 h1 => ?_) p0 h0
  refine tc_waddTo lv z 8 e2 l1 bb_z bb_8 (fun o2 a2 p2 h2 => ?_) p1 h1
  refine tc_waddTo lv 8 9 e3 l2 bb_8 bb_9 (fun o3 a3 p3 h3 => ?_) p2 h2
  refine tc_put 2 7 0 e4 l3 bb_7 (fun o4 a4 p4 h4 => ?_) p3 h3
  refine tc_put 1 7 (-1) e5 l4 bb_7 (fun o5 a5 p5 h5 => ?_) p4 h4
  refine tc_put 1 9 (-1) e6 l5 bb_9 (fun o6 a6 p6 h6 => ?_) p5 h5
  refine tc_put 1 10 1 e7 l6 bb_10 (fun o7 a7 p7 h7 => ?_) p6 h6
  refine tc_waddTo lv 9 11 e8 l7 bb_9 bb_11 (fun o8 a8 p8 h8 => ?_) p7 h7
  refine tc_put 2 11 0 e9 l8 bb_11 (fun o9 a9 p9 h9 => ?_) p8 h8
  refine tc_put 1 10 (-1) e10 l9 bb_10 (fun o10 a10 p10 h10 => ?_) p9 h9
  refine tc_wclear lv 11 e11 l10 bb_11 (fun o11 a11 p11 h11 => ?_) p10 h10
  refine tc_put 3 11 0 e12 l11 bb_11 (fun o12 a12 p12 h12 => ?_) p11 h11
  refine tc_put 2 10 0 e13 l12 bb_10 (fun o13 a13 p13 h13 => ?_) p12 h12
  refine tc_put 1 10 (-1) e14 l13 bb_10 (fun o14 a14 p14 h14 => ?_) p13 h13
  refine tc_put 1 12 1 e15 l14 bb_12 (fun o15 a15 p15 h15 => ?_) p14 h14
  refine tc_waddTo lv 8 9 e16 l15 bb_8 bb_9 (fun o16 a16 p16 h16 => ?_) p15 h15
  refine tc_put 3 10 0 e17 l16 bb_10 (fun o17 a17 p17 h17 => ?_) p16 h16
  refine tc_put 3 7 0 e18 l17 bb_7 (fun o18 a18 p18 h18 => ?_) p17 h17
  refine tc_wclear lv 8 e19 l18 bb_8 (fun o19 a19 p19 h19 => ?_) p18 h18
  refine tc_wclear lv 9 e20 l19 bb_9 (fun o20 a20 p20 h20 => ?_) p19 h19
  refine tc_wclear lv x e21 l20 bb_x (fun o21 a21 p21 h21 => ?_) p20 h20
  refine tc_wpour lv 12 x 1 e22 l21 bb_12 bb_x (fun o22 a22 p22 h22 => ?_) p21 h21
  exact hwn o22 a22 p22 h22
theorem tc_ews0 (T : List tc_Tok) (lv : Bool) (x y : Nat) : T ++ (tc_clear lv x).1 ++ [(1, x, (nI y))] = T ++ (tc_seq (tc_clear lv x) (tc_tok (1, x, nI y))).1 := by
  simp only [tc_seq, tc_loop, tc_tok, List.append_assoc, List.cons_append, List.nil_append]
theorem tc_ws0 {C : tc_C} {post : SX → Prop} {T : List tc_Tok} {wt ns : Int32} {tasks ops args : Nat → Int32} (lv : Bool) (x y : Nat) (z : Int32) (hl : T.length + 100 ≤ 1000) (hx : x < 6)  (hw : tc_Wr C post (T ++ (tc_seq (tc_clear lv x) (tc_tok (1, x, nI y))).1) wt ns tasks) (hp : tc_pl 0 T < 128) (hh : tc_hold ops args 0 (tc_em 0 T)) : wpX_writeSimple post (C.1, C.2.1, C.2.2.1, nI (tc_em 0 (T)).length, nI (tc_pl 0 (T)), wt, ns, C.2.2.2.1, C.2.2.2.2.1, C.2.2.2.2.2.1, C.2.2.2.2.2.2.1, C.2.2.2.2.2.2.2.1, C.2.2.2.2.2.2.2.2.1, C.2.2.2.2.2.2.2.2.2.1, C.2.2.2.2.2.2.2.2.2.2.1, ops, args, tasks, C.2.2.2.2.2.2.2.2.2.2.2) (nI 0) (nI x) (nI y) z := by
  delta wpX_writeSimple
  have bb_x : x < 128 := by omega
  obtain ⟨T1, e1⟩ : ∃ S : List tc_Tok, S = T ++ (tc_clear lv x).1 := ⟨_, rfl⟩
  have m1 : T1.length = T.length + 3 := by rw [e1, List.length_append]; rfl
  have l0 : T.length + 3 ≤ 1000 := by omega
  obtain ⟨T2, e2⟩ : ∃ S : List tc_Tok, S = T1 ++ [(1, x, (nI y))] := ⟨_, rfl⟩
  have m2 : T2.length = T1.length + 1 := by rw [e2, List.length_append]; rfl
  have l1 : T1.length + 1 ≤ 1000 := by omega
  have en : T2 = T ++ (tc_seq (tc_clear lv x) (tc_tok (1, x, nI y))).1 := by rw [e2, e1]; exact tc_ews0 T lv x y
  have hwn : tc_Wr C post T2 wt ns tasks := tc_wr_cast en hw
  have p0 := hp
  have h0 := hh
  refine br_f (by decide) (br_f (by decide) (br_t rfl (?_)))
  refine tc_wclear lv x e1 l0 bb_x (fun o1 a1 p1 h1 => ?_) p0 h0
  refine tc_put 1 x (nI y) e2 l1 bb_x (fun o2 a2 p2 h2 => ?_) p1 h1
  exact hwn o2 a2 p2 h2
theorem tc_ews1 (T : List tc_Tok) (lv : Bool) (x y : Nat) : T ++ (tc_addTo lv y 7).1 ++ (tc_clear lv x).1 ++ (tc_pour lv 7 x 1).1 = T ++ (tc_seq (tc_addTo lv y 7) (tc_seq (tc_clear lv x) (tc_pour lv 7 x 1))).1 := by
  simp only [tc_seq, tc_loop, tc_tok, List.append_assoc, List.cons_append, List.nil_append]
theorem tc_ws1 {C : tc_C} {post : SX → Prop} {T : List tc_Tok} {wt ns : Int32} {tasks ops args : Nat → Int32} (lv : Bool) (x y : Nat) (z : Int32) (hl : T.length + 100 ≤ 1000) (hx : x < 6) (hy : y < 6) (hw : tc_Wr C post (T ++ (tc_seq (tc_addTo lv y 7) (tc_seq (tc_clear lv x) (tc_pour lv 7 x 1))).1) wt ns tasks) (hp : tc_pl 0 T < 128) (hh : tc_hold ops args 0 (tc_em 0 T)) : wpX_writeSimple post (C.1, C.2.1, C.2.2.1, nI (tc_em 0 (T)).length, nI (tc_pl 0 (T)), wt, ns, C.2.2.2.1, C.2.2.2.2.1, C.2.2.2.2.2.1, C.2.2.2.2.2.2.1, C.2.2.2.2.2.2.2.1, C.2.2.2.2.2.2.2.2.1, C.2.2.2.2.2.2.2.2.2.1, C.2.2.2.2.2.2.2.2.2.2.1, ops, args, tasks, C.2.2.2.2.2.2.2.2.2.2.2) (nI 1) (nI x) (nI y) z := by
  delta wpX_writeSimple
  have bb_7 : 7 < 128 := by omega
  have bb_x : x < 128 := by omega
  have bb_y : y < 128 := by omega
  obtain ⟨T1, e1⟩ : ∃ S : List tc_Tok, S = T ++ (tc_addTo lv y 7).1 := ⟨_, rfl⟩
  have m1 : T1.length = T.length + 9 := by rw [e1, List.length_append]; rfl
  have l0 : T.length + 9 ≤ 1000 := by omega
  obtain ⟨T2, e2⟩ : ∃ S : List tc_Tok, S = T1 ++ (tc_clear lv x).1 := ⟨_, rfl⟩
  have m2 : T2.length = T1.length + 3 := by rw [e2, List.length_append]; rfl
  have l1 : T1.length + 3 ≤ 1000 := by omega
  obtain ⟨T3, e3⟩ : ∃ S : List tc_Tok, S = T2 ++ (tc_pour lv 7 x 1).1 := ⟨_, rfl⟩
  have m3 : T3.length = T2.length + 4 := by rw [e3, List.length_append]; rfl
  have l2 : T2.length + 4 ≤ 1000 := by omega
  have en : T3 = T ++ (tc_seq (tc_addTo lv y 7) (tc_seq (tc_clear lv x) (tc_pour lv 7 x 1))).1 := by rw [e3, e2, e1]; exact tc_ews1 T lv x y
  have hwn : tc_Wr C post T3 wt ns tasks := tc_wr_cast en hw
  have p0 := hp
  have h0 := hh
  refine br_f (by decide) (br_f (by decide) (br_f (by decide) (br_t rfl (?_))))
  refine tc_waddTo lv y 7 e1 l0 bb_y bb_7 (fun o1 a1 p1 h1 => ?_) p0 h0
  refine tc_wclear lv x e2 l1 bb_x (fun o2 a2 p2 h2 => ?_) p1 h1
  refine tc_wpour lv 7 x 1 e3 l2 bb_7 bb_x (fun o3 a3 p3 h3 => ?_) p2 h2
  exact hwn o3 a3 p3 h3
theorem tc_ews2 (T : List tc_Tok) (lv : Bool) (x y : Nat) : T ++ (tc_addTo lv y 7).1 ++ (tc_pour lv 7 x 1).1 = T ++ (tc_seq (tc_addTo lv y 7) (tc_pour lv 7 x 1)).1 := by
  simp only [tc_seq, tc_loop, tc_tok, List.append_assoc, List.cons_append, List.nil_append]
theorem tc_ws2 {C : tc_C} {post : SX → Prop} {T : List tc_Tok} {wt ns : Int32} {tasks ops args : Nat → Int32} (lv : Bool) (x y : Nat) (z : Int32) (hl : T.length + 100 ≤ 1000) (hx : x < 6) (hy : y < 6) (hw : tc_Wr C post (T ++ (tc_seq (tc_addTo lv y 7) (tc_pour lv 7 x 1)).1) wt ns tasks) (hp : tc_pl 0 T < 128) (hh : tc_hold ops args 0 (tc_em 0 T)) : wpX_writeSimple post (C.1, C.2.1, C.2.2.1, nI (tc_em 0 (T)).length, nI (tc_pl 0 (T)), wt, ns, C.2.2.2.1, C.2.2.2.2.1, C.2.2.2.2.2.1, C.2.2.2.2.2.2.1, C.2.2.2.2.2.2.2.1, C.2.2.2.2.2.2.2.2.1, C.2.2.2.2.2.2.2.2.2.1, C.2.2.2.2.2.2.2.2.2.2.1, ops, args, tasks, C.2.2.2.2.2.2.2.2.2.2.2) (nI 2) (nI x) (nI y) z := by
  delta wpX_writeSimple
  have bb_7 : 7 < 128 := by omega
  have bb_x : x < 128 := by omega
  have bb_y : y < 128 := by omega
  obtain ⟨T1, e1⟩ : ∃ S : List tc_Tok, S = T ++ (tc_addTo lv y 7).1 := ⟨_, rfl⟩
  have m1 : T1.length = T.length + 9 := by rw [e1, List.length_append]; rfl
  have l0 : T.length + 9 ≤ 1000 := by omega
  obtain ⟨T2, e2⟩ : ∃ S : List tc_Tok, S = T1 ++ (tc_pour lv 7 x 1).1 := ⟨_, rfl⟩
  have m2 : T2.length = T1.length + 4 := by rw [e2, List.length_append]; rfl
  have l1 : T1.length + 4 ≤ 1000 := by omega
  have en : T2 = T ++ (tc_seq (tc_addTo lv y 7) (tc_pour lv 7 x 1)).1 := by rw [e2, e1]; exact tc_ews2 T lv x y
  have hwn : tc_Wr C post T2 wt ns tasks := tc_wr_cast en hw
  have p0 := hp
  have h0 := hh
  refine br_f (by decide) (br_f (by decide) (br_f (by decide) (br_f (by decide) (br_t rfl (?_)))))
  refine tc_waddTo lv y 7 e1 l0 bb_y bb_7 (fun o1 a1 p1 h1 => ?_) p0 h0
  refine tc_wpour lv 7 x 1 e2 l1 bb_7 bb_x (fun o2 a2 p2 h2 => ?_) p1 h1
  exact hwn o2 a2 p2 h2
theorem tc_ews3 (T : List tc_Tok) (lv : Bool) (x y : Nat) : T ++ (tc_addTo lv y 7).1 ++ (tc_pour lv 7 x (-1)).1 = T ++ (tc_seq (tc_addTo lv y 7) (tc_pour lv 7 x (-1))).1 := by
  simp only [tc_seq, tc_loop, tc_tok, List.append_assoc, List.cons_append, List.nil_append]
theorem tc_ws3 {C : tc_C} {post : SX → Prop} {T : List tc_Tok} {wt ns : Int32} {tasks ops args : Nat → Int32} (lv : Bool) (x y : Nat) (z : Int32) (hl : T.length + 100 ≤ 1000) (hx : x < 6) (hy : y < 6) (hw : tc_Wr C post (T ++ (tc_seq (tc_addTo lv y 7) (tc_pour lv 7 x (-1))).1) wt ns tasks) (hp : tc_pl 0 T < 128) (hh : tc_hold ops args 0 (tc_em 0 T)) : wpX_writeSimple post (C.1, C.2.1, C.2.2.1, nI (tc_em 0 (T)).length, nI (tc_pl 0 (T)), wt, ns, C.2.2.2.1, C.2.2.2.2.1, C.2.2.2.2.2.1, C.2.2.2.2.2.2.1, C.2.2.2.2.2.2.2.1, C.2.2.2.2.2.2.2.2.1, C.2.2.2.2.2.2.2.2.2.1, C.2.2.2.2.2.2.2.2.2.2.1, ops, args, tasks, C.2.2.2.2.2.2.2.2.2.2.2) (nI 3) (nI x) (nI y) z := by
  delta wpX_writeSimple
  have bb_7 : 7 < 128 := by omega
  have bb_x : x < 128 := by omega
  have bb_y : y < 128 := by omega
  obtain ⟨T1, e1⟩ : ∃ S : List tc_Tok, S = T ++ (tc_addTo lv y 7).1 := ⟨_, rfl⟩
  have m1 : T1.length = T.length + 9 := by rw [e1, List.length_append]; rfl
  have l0 : T.length + 9 ≤ 1000 := by omega
  obtain ⟨T2, e2⟩ : ∃ S : List tc_Tok, S = T1 ++ (tc_pour lv 7 x (-1)).1 := ⟨_, rfl⟩
  have m2 : T2.length = T1.length + 4 := by rw [e2, List.length_append]; rfl
  have l1 : T1.length + 4 ≤ 1000 := by omega
  have en : T2 = T ++ (tc_seq (tc_addTo lv y 7) (tc_pour lv 7 x (-1))).1 := by rw [e2, e1]; exact tc_ews3 T lv x y
  have hwn : tc_Wr C post T2 wt ns tasks := tc_wr_cast en hw
  have p0 := hp
  have h0 := hh
  refine br_f (by decide) (br_f (by decide) (br_f (by decide) (br_f (by decide) (br_f (by decide) (br_t rfl (?_))))))
  refine tc_waddTo lv y 7 e1 l0 bb_y bb_7 (fun o1 a1 p1 h1 => ?_) p0 h0
  refine tc_wpour lv 7 x (-1) e2 l1 bb_7 bb_x (fun o2 a2 p2 h2 => ?_) p1 h1
  exact hwn o2 a2 p2 h2
theorem tc_ews7 (T : List tc_Tok) (lv : Bool) (x y : Nat) : T ++ (tc_addTo lv y 18).1 ++ (tc_walkOut lv).1 ++ (tc_lift lv).1 ++ (tc_walkBack lv).1 ++ (tc_clear lv x).1 ++ (tc_pour lv 19 x 1).1 = T ++ (tc_fetch lv x y).1 := by
  simp only [tc_fetch, tc_seq, tc_loop, tc_tok, List.append_assoc, List.cons_append, List.nil_append]
theorem tc_ws7 {C : tc_C} {post : SX → Prop} {T : List tc_Tok} {wt ns : Int32} {tasks ops args : Nat → Int32} (lv : Bool) (x y : Nat) (z : Int32) (hl : T.length + 100 ≤ 1000) (hx : x < 6) (hy : y < 6) (hw : tc_Wr C post (T ++ (tc_fetch lv x y).1) wt ns tasks) (hp : tc_pl 0 T < 128) (hh : tc_hold ops args 0 (tc_em 0 T)) : wpX_writeSimple post (C.1, C.2.1, C.2.2.1, nI (tc_em 0 (T)).length, nI (tc_pl 0 (T)), wt, ns, C.2.2.2.1, C.2.2.2.2.1, C.2.2.2.2.2.1, C.2.2.2.2.2.2.1, C.2.2.2.2.2.2.2.1, C.2.2.2.2.2.2.2.2.1, C.2.2.2.2.2.2.2.2.2.1, C.2.2.2.2.2.2.2.2.2.2.1, ops, args, tasks, C.2.2.2.2.2.2.2.2.2.2.2) (nI 7) (nI x) (nI y) z := by
  delta wpX_writeSimple
  have bb_18 : 18 < 128 := by omega
  have bb_19 : 19 < 128 := by omega
  have bb_x : x < 128 := by omega
  have bb_y : y < 128 := by omega
  obtain ⟨T1, e1⟩ : ∃ S : List tc_Tok, S = T ++ (tc_addTo lv y 18).1 := ⟨_, rfl⟩
  have m1 : T1.length = T.length + 9 := by rw [e1, List.length_append]; rfl
  have l0 : T.length + 9 ≤ 1000 := by omega
  obtain ⟨T2, e2⟩ : ∃ S : List tc_Tok, S = T1 ++ (tc_walkOut lv).1 := ⟨_, rfl⟩
  have m2 : T2.length = T1.length + 13 := by rw [e2, List.length_append]; rfl
  have l1 : T1.length + 13 ≤ 1000 := by omega
  obtain ⟨T3, e3⟩ : ∃ S : List tc_Tok, S = T2 ++ (tc_lift lv).1 := ⟨_, rfl⟩
  have m3 : T3.length = T2.length + 9 := by rw [e3, List.length_append]; rfl
  have l2 : T2.length + 9 ≤ 1000 := by omega
  obtain ⟨T4, e4⟩ : ∃ S : List tc_Tok, S = T3 ++ (tc_walkBack lv).1 := ⟨_, rfl⟩
  have m4 : T4.length = T3.length + 8 := by rw [e4, List.length_append]; rfl
  have l3 : T3.length + 8 ≤ 1000 := by omega
  obtain ⟨T5, e5⟩ : ∃ S : List tc_Tok, S = T4 ++ (tc_clear lv x).1 := ⟨_, rfl⟩
  have m5 : T5.length = T4.length + 3 := by rw [e5, List.length_append]; rfl
  have l4 : T4.length + 3 ≤ 1000 := by omega
  obtain ⟨T6, e6⟩ : ∃ S : List tc_Tok, S = T5 ++ (tc_pour lv 19 x 1).1 := ⟨_, rfl⟩
  have m6 : T6.length = T5.length + 4 := by rw [e6, List.length_append]; rfl
  have l5 : T5.length + 4 ≤ 1000 := by omega
  have en : T6 = T ++ (tc_fetch lv x y).1 := by rw [e6, e5, e4, e3, e2, e1]; exact tc_ews7 T lv x y
  have hwn : tc_Wr C post T6 wt ns tasks := tc_wr_cast en hw
  have p0 := hp
  have h0 := hh
  refine br_f (by decide) (br_f (by decide) (br_f (by decide) (br_f (by decide) (br_f (by decide) (br_f (by decide) (br_f (by decide) (br_f (by decide) (br_f (by decide) (br_t rfl (?_))))))))))
  refine tc_waddTo lv y 18 e1 l0 bb_y bb_18 (fun o1 a1 p1 h1 => ?_) p0 h0
  refine tc_wwalkOut lv e2 l1 (fun o2 a2 p2 h2 => ?_) p1 h1
  refine tc_wlift lv e3 l2 (fun o3 a3 p3 h3 => ?_) p2 h2
  refine tc_wwalkBack lv e4 l3 (fun o4 a4 p4 h4 => ?_) p3 h3
  refine tc_wclear lv x e5 l4 bb_x (fun o5 a5 p5 h5 => ?_) p4 h4
  refine tc_wpour lv 19 x 1 e6 l5 bb_19 bb_x (fun o6 a6 p6 h6 => ?_) p5 h5
  exact hwn o6 a6 p6 h6
theorem tc_ews8 (T : List tc_Tok) (lv : Bool) (x y : Nat) : T ++ (tc_addTo lv x 18).1 ++ (tc_addTo lv y 19).1 ++ (tc_walkOut lv).1 ++ (tc_clear lv 17).1 ++ (tc_pour lv 19 17 1).1 ++ (tc_walkBack lv).1 = T ++ (tc_store lv x y).1 := by
  simp only [tc_store, tc_seq, tc_loop, tc_tok, List.append_assoc, List.cons_append, List.nil_append]
theorem tc_ws8 {C : tc_C} {post : SX → Prop} {T : List tc_Tok} {wt ns : Int32} {tasks ops args : Nat → Int32} (lv : Bool) (x y : Nat) (z : Int32) (hl : T.length + 100 ≤ 1000) (hx : x < 6) (hy : y < 6) (hw : tc_Wr C post (T ++ (tc_store lv x y).1) wt ns tasks) (hp : tc_pl 0 T < 128) (hh : tc_hold ops args 0 (tc_em 0 T)) : wpX_writeSimple post (C.1, C.2.1, C.2.2.1, nI (tc_em 0 (T)).length, nI (tc_pl 0 (T)), wt, ns, C.2.2.2.1, C.2.2.2.2.1, C.2.2.2.2.2.1, C.2.2.2.2.2.2.1, C.2.2.2.2.2.2.2.1, C.2.2.2.2.2.2.2.2.1, C.2.2.2.2.2.2.2.2.2.1, C.2.2.2.2.2.2.2.2.2.2.1, ops, args, tasks, C.2.2.2.2.2.2.2.2.2.2.2) (nI 8) (nI x) (nI y) z := by
  delta wpX_writeSimple
  have bb_17 : 17 < 128 := by omega
  have bb_18 : 18 < 128 := by omega
  have bb_19 : 19 < 128 := by omega
  have bb_x : x < 128 := by omega
  have bb_y : y < 128 := by omega
  obtain ⟨T1, e1⟩ : ∃ S : List tc_Tok, S = T ++ (tc_addTo lv x 18).1 := ⟨_, rfl⟩
  have m1 : T1.length = T.length + 9 := by rw [e1, List.length_append]; rfl
  have l0 : T.length + 9 ≤ 1000 := by omega
  obtain ⟨T2, e2⟩ : ∃ S : List tc_Tok, S = T1 ++ (tc_addTo lv y 19).1 := ⟨_, rfl⟩
  have m2 : T2.length = T1.length + 9 := by rw [e2, List.length_append]; rfl
  have l1 : T1.length + 9 ≤ 1000 := by omega
  obtain ⟨T3, e3⟩ : ∃ S : List tc_Tok, S = T2 ++ (tc_walkOut lv).1 := ⟨_, rfl⟩
  have m3 : T3.length = T2.length + 13 := by rw [e3, List.length_append]; rfl
  have l2 : T2.length + 13 ≤ 1000 := by omega
  obtain ⟨T4, e4⟩ : ∃ S : List tc_Tok, S = T3 ++ (tc_clear lv 17).1 := ⟨_, rfl⟩
  have m4 : T4.length = T3.length + 3 := by rw [e4, List.length_append]; rfl
  have l3 : T3.length + 3 ≤ 1000 := by omega
  obtain ⟨T5, e5⟩ : ∃ S : List tc_Tok, S = T4 ++ (tc_pour lv 19 17 1).1 := ⟨_, rfl⟩
  have m5 : T5.length = T4.length + 4 := by rw [e5, List.length_append]; rfl
  have l4 : T4.length + 4 ≤ 1000 := by omega
  obtain ⟨T6, e6⟩ : ∃ S : List tc_Tok, S = T5 ++ (tc_walkBack lv).1 := ⟨_, rfl⟩
  have m6 : T6.length = T5.length + 8 := by rw [e6, List.length_append]; rfl
  have l5 : T5.length + 8 ≤ 1000 := by omega
  have en : T6 = T ++ (tc_store lv x y).1 := by rw [e6, e5, e4, e3, e2, e1]; exact tc_ews8 T lv x y
  have hwn : tc_Wr C post T6 wt ns tasks := tc_wr_cast en hw
  have p0 := hp
  have h0 := hh
  refine br_f (by decide) (br_f (by decide) (br_f (by decide) (br_f (by decide) (br_f (by decide) (br_f (by decide) (br_f (by decide) (br_f (by decide) (br_f (by decide) (br_f (by decide) (br_t rfl (?_)))))))))))
  refine tc_waddTo lv x 18 e1 l0 bb_x bb_18 (fun o1 a1 p1 h1 => ?_) p0 h0
  refine tc_waddTo lv y 19 e2 l1 bb_y bb_19 (fun o2 a2 p2 h2 => ?_) p1 h1
  refine tc_wwalkOut lv e3 l2 (fun o3 a3 p3 h3 => ?_) p2 h2
  refine tc_wclear lv 17 e4 l3 bb_17 (fun o4 a4 p4 h4 => ?_) p3 h3
  refine tc_wpour lv 19 17 1 e5 l4 bb_19 bb_17 (fun o5 a5 p5 h5 => ?_) p4 h4
  refine tc_wwalkBack lv e6 l5 (fun o6 a6 p6 h6 => ?_) p5 h5
  exact hwn o6 a6 p6 h6
theorem tc_ews9 (T : List tc_Tok) (lv : Bool) (x y : Nat) : T ++ [(4, x, 0)] = T ++ (tc_tok (4, x, 0)).1 := by
  simp only [tc_seq, tc_loop, tc_tok, List.append_assoc, List.cons_append, List.nil_append]
theorem tc_ws9 {C : tc_C} {post : SX → Prop} {T : List tc_Tok} {wt ns : Int32} {tasks ops args : Nat → Int32} (lv : Bool) (x y : Nat) (z : Int32) (hl : T.length + 100 ≤ 1000) (hx : x < 6)  (hw : tc_Wr C post (T ++ (tc_tok (4, x, 0)).1) wt ns tasks) (hp : tc_pl 0 T < 128) (hh : tc_hold ops args 0 (tc_em 0 T)) : wpX_writeSimple post (C.1, C.2.1, C.2.2.1, nI (tc_em 0 (T)).length, nI (tc_pl 0 (T)), wt, ns, C.2.2.2.1, C.2.2.2.2.1, C.2.2.2.2.2.1, C.2.2.2.2.2.2.1, C.2.2.2.2.2.2.2.1, C.2.2.2.2.2.2.2.2.1, C.2.2.2.2.2.2.2.2.2.1, C.2.2.2.2.2.2.2.2.2.2.1, ops, args, tasks, C.2.2.2.2.2.2.2.2.2.2.2) (nI 9) (nI x) (nI y) z := by
  delta wpX_writeSimple
  have bb_x : x < 128 := by omega
  obtain ⟨T1, e1⟩ : ∃ S : List tc_Tok, S = T ++ [(4, x, 0)] := ⟨_, rfl⟩
  have m1 : T1.length = T.length + 1 := by rw [e1, List.length_append]; rfl
  have l0 : T.length + 1 ≤ 1000 := by omega
  have en : T1 = T ++ (tc_tok (4, x, 0)).1 := by rw [e1]; exact tc_ews9 T lv x y
  have hwn : tc_Wr C post T1 wt ns tasks := tc_wr_cast en hw
  have p0 := hp
  have h0 := hh
  refine br_f (by decide) (br_f (by decide) (br_f (by decide) (br_f (by decide) (br_f (by decide) (br_f (by decide) (br_f (by decide) (br_f (by decide) (br_f (by decide) (br_f (by decide) (br_f (by decide) (br_t rfl (?_))))))))))))
  refine tc_put 4 x 0 e1 l0 bb_x (fun o1 a1 p1 h1 => ?_) p0 h0
  exact hwn o1 a1 p1 h1
theorem tc_ws4 {C : tc_C} {post : SX → Prop} {T : List tc_Tok} {wt ns : Int32} {tasks ops args : Nat → Int32} (lv : Bool) (x y z : Nat) (hl : T.length + 100 ≤ 1000) (hx : x < 6) (hy : y < 6) (hz : z < 6) (hw : tc_Wr C post (T ++ (tc_product lv x y z).1) wt ns tasks) (hp : tc_pl 0 T < 128) (hh : tc_hold ops args 0 (tc_em 0 T)) : wpX_writeSimple post (C.1, C.2.1, C.2.2.1, nI (tc_em 0 (T)).length, nI (tc_pl 0 (T)), wt, ns, C.2.2.2.1, C.2.2.2.2.1, C.2.2.2.2.2.1, C.2.2.2.2.2.2.1, C.2.2.2.2.2.2.2.1, C.2.2.2.2.2.2.2.2.1, C.2.2.2.2.2.2.2.2.2.1, C.2.2.2.2.2.2.2.2.2.2.1, ops, args, tasks, C.2.2.2.2.2.2.2.2.2.2.2) (nI 4) (nI x) (nI y) (nI z) := by
  delta wpX_writeSimple
  exact br_f (by decide) (br_f (by decide) (br_f (by decide) (br_f (by decide) (br_f (by decide) (br_f (by decide) (br_t rfl (tc_wproduct lv x y z rfl hl hx hy hz (fun o a p h => hw o a p h) hp hh)))))))
theorem tc_ws5 {C : tc_C} {post : SX → Prop} {T : List tc_Tok} {wt ns : Int32} {tasks ops args : Nat → Int32} (lv : Bool) (x y z : Nat) (hl : T.length + 100 ≤ 1000) (hx : x < 6) (hy : y < 6) (hz : z < 6) (hw : tc_Wr C post (T ++ (tc_less lv x y z).1) wt ns tasks) (hp : tc_pl 0 T < 128) (hh : tc_hold ops args 0 (tc_em 0 T)) : wpX_writeSimple post (C.1, C.2.1, C.2.2.1, nI (tc_em 0 (T)).length, nI (tc_pl 0 (T)), wt, ns, C.2.2.2.1, C.2.2.2.2.1, C.2.2.2.2.2.1, C.2.2.2.2.2.2.1, C.2.2.2.2.2.2.2.1, C.2.2.2.2.2.2.2.2.1, C.2.2.2.2.2.2.2.2.2.1, C.2.2.2.2.2.2.2.2.2.2.1, ops, args, tasks, C.2.2.2.2.2.2.2.2.2.2.2) (nI 5) (nI x) (nI y) (nI z) := by
  delta wpX_writeSimple
  exact br_f (by decide) (br_f (by decide) (br_f (by decide) (br_f (by decide) (br_f (by decide) (br_f (by decide) (br_f (by decide) (br_t rfl (tc_wless lv x y z rfl hl hx hy hz (fun o a p h => hw o a p h) hp hh))))))))
theorem tc_ws6 {C : tc_C} {post : SX → Prop} {T : List tc_Tok} {wt ns : Int32} {tasks ops args : Nat → Int32} (lv : Bool) (x y z : Nat) (hl : T.length + 100 ≤ 1000) (hx : x < 6) (hy : y < 6) (hz : z < 6) (hw : tc_Wr C post (T ++ (tc_equal lv x y z).1) wt ns tasks) (hp : tc_pl 0 T < 128) (hh : tc_hold ops args 0 (tc_em 0 T)) : wpX_writeSimple post (C.1, C.2.1, C.2.2.1, nI (tc_em 0 (T)).length, nI (tc_pl 0 (T)), wt, ns, C.2.2.2.1, C.2.2.2.2.1, C.2.2.2.2.2.1, C.2.2.2.2.2.2.1, C.2.2.2.2.2.2.2.1, C.2.2.2.2.2.2.2.2.1, C.2.2.2.2.2.2.2.2.2.1, C.2.2.2.2.2.2.2.2.2.2.1, ops, args, tasks, C.2.2.2.2.2.2.2.2.2.2.2) (nI 6) (nI x) (nI y) (nI z) := by
  delta wpX_writeSimple
  exact br_f (by decide) (br_f (by decide) (br_f (by decide) (br_f (by decide) (br_f (by decide) (br_f (by decide) (br_f (by decide) (br_f (by decide) (br_t rfl (tc_wequal lv x y z rfl hl hx hy hz (fun o a p h => hw o a p h) hp hh)))))))))
theorem tc_ws13 {C : tc_C} {post : SX → Prop} {T : List tc_Tok} {wt ns : Int32} {tasks ops args : Nat → Int32} (lv : Bool) (x y z : Nat) (hl : T.length + 100 ≤ 1000) (hx : x < 6) (hy : y < 6) (hz : z < 6) (hw : tc_Wr C post (T ++ (tc_quot lv x y z).1) wt ns tasks) (hp : tc_pl 0 T < 128) (hh : tc_hold ops args 0 (tc_em 0 T)) : wpX_writeSimple post (C.1, C.2.1, C.2.2.1, nI (tc_em 0 (T)).length, nI (tc_pl 0 (T)), wt, ns, C.2.2.2.1, C.2.2.2.2.1, C.2.2.2.2.2.1, C.2.2.2.2.2.2.1, C.2.2.2.2.2.2.2.1, C.2.2.2.2.2.2.2.2.1, C.2.2.2.2.2.2.2.2.2.1, C.2.2.2.2.2.2.2.2.2.2.1, ops, args, tasks, C.2.2.2.2.2.2.2.2.2.2.2) (nI 13) (nI x) (nI y) (nI z) := by
  delta wpX_writeSimple
  exact br_f (by decide) (br_t (by decide) (tc_wquot lv x y z rfl hl hx hy hz (fun o a p h => hw o a p h) hp hh))
theorem tc_wsimple {C : tc_C} {post : SX → Prop} {T : List tc_Tok} {wt ns : Int32} {tasks ops args : Nat → Int32} (lv : Bool) (k x y z : Nat) (hl : T.length + 100 ≤ 1000) (hk : k ≤ 13) (k10 : k ≠ 10) (k11 : k ≠ 11) (k12 : k ≠ 12) (hx : x < 6) (hy : k ≠ 0 → k ≠ 9 → y < 6) (hz : k = 4 ∨ k = 5 ∨ k = 6 ∨ 9 < k → z < 6) (hw : tc_Wr C post (T ++ (tc_simple lv k x y z).1) wt ns tasks) (hp : tc_pl 0 T < 128) (hh : tc_hold ops args 0 (tc_em 0 T)) : wpX_writeSimple post (C.1, C.2.1, C.2.2.1, nI (tc_em 0 (T)).length, nI (tc_pl 0 (T)), wt, ns, C.2.2.2.1, C.2.2.2.2.1, C.2.2.2.2.2.1, C.2.2.2.2.2.2.1, C.2.2.2.2.2.2.2.1, C.2.2.2.2.2.2.2.2.1, C.2.2.2.2.2.2.2.2.2.1, C.2.2.2.2.2.2.2.2.2.2.1, ops, args, tasks, C.2.2.2.2.2.2.2.2.2.2.2) (nI k) (nI x) (nI y) (nI z) := by
  unfold tc_simple at hw
  by_cases k0 : k = 0
  · subst k0; exact tc_ws0 lv x y (nI z) hl hx hw hp hh
  rw [if_neg k0] at hw
  by_cases k9 : k = 9
  · subst k9; exact tc_ws9 lv x y (nI z) hl hx hw hp hh
  have hy6 := hy k0 k9
  by_cases k1 : k = 1
  · subst k1; exact tc_ws1 lv x y (nI z) hl hx hy6 hw hp hh
  rw [if_neg k1] at hw
  by_cases k2 : k = 2
  · subst k2; exact tc_ws2 lv x y (nI z) hl hx hy6 hw hp hh
  rw [if_neg k2] at hw
  by_cases k3 : k = 3
  · subst k3; exact tc_ws3 lv x y (nI z) hl hx hy6 hw hp hh
  rw [if_neg k3] at hw
  by_cases k4 : k = 4
  · subst k4; exact tc_ws4 lv x y z hl hx hy6 (hz (by omega)) hw hp hh
  rw [if_neg k4] at hw
  by_cases k5 : k = 5
  · subst k5; exact tc_ws5 lv x y z hl hx hy6 (hz (by omega)) hw hp hh
  rw [if_neg k5] at hw
  by_cases k6 : k = 6
  · subst k6; exact tc_ws6 lv x y z hl hx hy6 (hz (by omega)) hw hp hh
  rw [if_neg k6] at hw
  by_cases k7 : k = 7
  · subst k7; exact tc_ws7 lv x y (nI z) hl hx hy6 hw hp hh
  rw [if_neg k7] at hw
  by_cases k8 : k = 8
  · subst k8; exact tc_ws8 lv x y (nI z) hl hx hy6 hw hp hh
  rw [if_neg k8, if_neg k9] at hw
  have k13 : k = 13 := by omega
  subst k13
  exact tc_ws13 lv x y z hl hx hy6 (hz (by omega)) hw hp hh
