/-! part 11: the writer's loop over what is still to be written (made by wip/whole/gen11.py) -/
theorem tc_cellT (ns : Nat) : 13 + 2 * nI ns = nI (13 + 2 * ns) := by
  rw [show (13 : Int32) = nI 13 from rfl, show (2 : Int32) = nI 2 from rfl, pk_mul, nI_add]
theorem tc_cellO (ns : Nat) : 13 + 2 * nI ns + 1 = nI (14 + 2 * ns) := by
  rw [tc_cellT, nI_1]
  exact congrArg nI (by omega)
theorem tc_ne {v c : Nat} (hv : v < 1000) (hc : c < 1000) (h : v ≠ c) : ¬ nI v = nI c := fun e => h ((nI_eq (by omega) (by omega)).mp e)
theorem tc_wturns {C : tc_C} {P : Int32 → Prop} {T : List tc_Tok} {wt : Int32} {ns : Nat} {tasks ops args : Nat → Int32} (h : P (nI (13 + 2 * ns))) : wpX_turnsCell P (C.1, C.2.1, C.2.2.1, nI (tc_em 0 (T)).length, nI (tc_pl 0 (T)), wt, nI ns, C.2.2.2.1, C.2.2.2.2.1, C.2.2.2.2.2.1, C.2.2.2.2.2.2.1, C.2.2.2.2.2.2.2.1, C.2.2.2.2.2.2.2.2.1, C.2.2.2.2.2.2.2.2.2.1, C.2.2.2.2.2.2.2.2.2.2.1, ops, args, tasks, C.2.2.2.2.2.2.2.2.2.2.2) := by
  show P (13 + 2 * nI ns)
  rw [tc_cellT]
  exact h
theorem tc_wother {C : tc_C} {P : Int32 → Prop} {T : List tc_Tok} {wt : Int32} {ns : Nat} {tasks ops args : Nat → Int32} (h : P (nI (14 + 2 * ns))) : wpX_otherwiseCell P (C.1, C.2.1, C.2.2.1, nI (tc_em 0 (T)).length, nI (tc_pl 0 (T)), wt, nI ns, C.2.2.2.1, C.2.2.2.2.1, C.2.2.2.2.2.1, C.2.2.2.2.2.2.1, C.2.2.2.2.2.2.2.1, C.2.2.2.2.2.2.2.2.1, C.2.2.2.2.2.2.2.2.2.1, C.2.2.2.2.2.2.2.2.2.2.1, ops, args, tasks, C.2.2.2.2.2.2.2.2.2.2.2) := by
  show P (13 + 2 * nI ns + 1)
  rw [tc_cellO]
  exact h
theorem tc_wlater {C : tc_C} {post : SX → Prop} {T : List tc_Tok} {wt : Nat} {ns p : Int32} {tasks ops args : Nat → Int32} (v : Nat) (e : p = nI v) (hwt : wt < 64) (h : post (C.1, C.2.1, C.2.2.1, nI (tc_em 0 (T)).length, nI (tc_pl 0 (T)), nI (wt + 1), ns, C.2.2.2.1, C.2.2.2.2.1, C.2.2.2.2.2.1, C.2.2.2.2.2.2.1, C.2.2.2.2.2.2.2.1, C.2.2.2.2.2.2.2.2.1, C.2.2.2.2.2.2.2.2.2.1, C.2.2.2.2.2.2.2.2.2.2.1, ops, args, upd tasks wt (nI v), C.2.2.2.2.2.2.2.2.2.2.2)) : wpX_writeLater post (C.1, C.2.1, C.2.2.1, nI (tc_em 0 (T)).length, nI (tc_pl 0 (T)), nI wt, ns, C.2.2.2.1, C.2.2.2.2.1, C.2.2.2.2.2.1, C.2.2.2.2.2.2.1, C.2.2.2.2.2.2.2.1, C.2.2.2.2.2.2.2.2.1, C.2.2.2.2.2.2.2.2.2.1, C.2.2.2.2.2.2.2.2.2.2.1, ops, args, tasks, C.2.2.2.2.2.2.2.2.2.2.2) p := by
  subst e
  have cl : (nI wt).toNatClampNeg = wt := nI_clamp (by omega)
  delta wpX_writeLater
  refine br_f (nI_ge (b := 64) hwt (by decide)) ⟨vp_in_nI hwt (by omega), nm_e (nm_r (nI_1 wt) ?_)⟩
  rw [cl]
  exact h
theorem tc_wchoose {C : tc_C} {post : SX → Prop} {T T' : List tc_Tok} {tasks ops args : Nat → Int32} {wt ns : Nat} {p0 p1 p2 : Int32} (lv : Bool) (x y z : Nat) (ex : p0 = nI x) (ey : p1 = nI y) (ez : p2 = nI z) (eT : T' = T ++ ((tc_addTo lv x (13 + 2 * ns)).1 ++ ((1, 14 + 2 * ns, 1) :: (2, 13 + 2 * ns, 0) :: (1, 14 + 2 * ns, -1) :: (tc_clear lv (13 + 2 * ns)).1))) (hl : T.length + 20 ≤ 1000) (hx : x < 6) (hns : ns ≤ 1) (hwt : wt + 4 ≤ 64) (hw : tc_Wr C post T' (nI (wt + 4)) (nI (ns + 1)) (upd (upd (upd (upd tasks wt (nI 41)) (wt + 1) (nI z)) (wt + 2) (nI 40)) (wt + 3) (nI y))) (hp : tc_pl 0 T < 128) (hh : tc_hold ops args 0 (tc_em 0 T)) : wpX_writeChoose post (C.1, C.2.1, C.2.2.1, nI (tc_em 0 (T)).length, nI (tc_pl 0 (T)), nI wt, nI ns, C.2.2.2.1, C.2.2.2.2.1, C.2.2.2.2.2.1, C.2.2.2.2.2.2.1, C.2.2.2.2.2.2.2.1, C.2.2.2.2.2.2.2.2.1, C.2.2.2.2.2.2.2.2.2.1, C.2.2.2.2.2.2.2.2.2.2.1, ops, args, tasks, C.2.2.2.2.2.2.2.2.2.2.2) p0 p1 p2 := by
  subst ex
  obtain ⟨T1, e1⟩ : ∃ S : List tc_Tok, S = T ++ (tc_addTo lv x (13 + 2 * ns)).1 := ⟨_, rfl⟩
  obtain ⟨T2, e2⟩ : ∃ S : List tc_Tok, S = T1 ++ [(1, 14 + 2 * ns, 1)] := ⟨_, rfl⟩
  obtain ⟨T3, e3⟩ : ∃ S : List tc_Tok, S = T2 ++ [(2, 13 + 2 * ns, 0)] := ⟨_, rfl⟩
  obtain ⟨T4, e4⟩ : ∃ S : List tc_Tok, S = T3 ++ [(1, 14 + 2 * ns, -1)] := ⟨_, rfl⟩
  have e5 : T' = T4 ++ (tc_clear lv (13 + 2 * ns)).1 := by
    rw [e4, e3, e2, e1, eT]
    simp only [List.append_assoc, List.cons_append, List.nil_append]
  have m1 : T1.length = T.length + 9 := by rw [e1, List.length_append]; rfl
  have m2 : T2.length = T1.length + 1 := by rw [e2, List.length_append]; rfl
  have m3 : T3.length = T2.length + 1 := by rw [e3, List.length_append]; rfl
  have m4 : T4.length = T3.length + 1 := by rw [e4, List.length_append]; rfl
  have b1 : 13 + 2 * ns < 128 := by omega
  have b2 : 14 + 2 * ns < 128 := by omega
  have bx : x < 128 := by omega
  have l0 : T.length + 9 ≤ 1000 := by omega
  have l1 : T1.length + 1 ≤ 1000 := by omega
  have l2 : T2.length + 1 ≤ 1000 := by omega
  have l3 : T3.length + 1 ≤ 1000 := by omega
  have l4 : T4.length + 3 ≤ 1000 := by omega
  have w0 : wt < 64 := by omega
  have w1 : wt + 1 < 64 := by omega
  have w2 : wt + 1 + 1 < 64 := by omega
  have w3 : wt + 1 + 1 + 1 < 64 := by omega
  delta wpX_writeChoose
  refine tc_wturns ?_
  refine tc_wother ?_
  refine tc_waddTo lv x (13 + 2 * ns) e1 l0 bx b1 (fun o1 a1 p1 h1 => ?_) hp hh
  refine tc_put 1 (14 + 2 * ns) 1 e2 l1 b2 (fun o2 a2 p2 h2 => ?_) p1 h1
  refine tc_put 2 (13 + 2 * ns) 0 e3 l2 b1 (fun o3 a3 p3 h3 => ?_) p2 h2
  refine tc_put 1 (14 + 2 * ns) (-1) e4 l3 b2 (fun o4 a4 p4 h4 => ?_) p3 h3
  refine tc_wclear lv (13 + 2 * ns) e5 l4 b1 (fun o5 a5 p5 h5 => ?_) p4 h4
  refine nm_r (nI_1 ns) ?_
  refine tc_wlater 41 rfl w0 ?_
  refine tc_wlater z ez w1 ?_
  refine tc_wlater 40 rfl w2 ?_
  refine tc_wlater y ey w3 ?_
  exact hw o5 a5 p5 h5
theorem tc_wrepeat {C : tc_C} {post : SX → Prop} {T T' : List tc_Tok} {tasks ops args : Nat → Int32} {wt ns : Nat} {p0 p1 : Int32} (lv : Bool) (x y : Nat) (ex : p0 = nI x) (ey : p1 = nI y) (eT : T' = T ++ ((tc_addTo lv x (13 + 2 * ns)).1 ++ [(2, 13 + 2 * ns, 0), (1, 13 + 2 * ns, -1)])) (hl : T.length + 20 ≤ 1000) (hx : x < 6) (hns : ns ≤ 1) (hwt : wt + 2 ≤ 64) (hw : tc_Wr C post T' (nI (wt + 2)) (nI (ns + 1)) (upd (upd tasks wt (nI 42)) (wt + 1) (nI y))) (hp : tc_pl 0 T < 128) (hh : tc_hold ops args 0 (tc_em 0 T)) : wpX_writeRepeat post (C.1, C.2.1, C.2.2.1, nI (tc_em 0 (T)).length, nI (tc_pl 0 (T)), nI wt, nI ns, C.2.2.2.1, C.2.2.2.2.1, C.2.2.2.2.2.1, C.2.2.2.2.2.2.1, C.2.2.2.2.2.2.2.1, C.2.2.2.2.2.2.2.2.1, C.2.2.2.2.2.2.2.2.2.1, C.2.2.2.2.2.2.2.2.2.2.1, ops, args, tasks, C.2.2.2.2.2.2.2.2.2.2.2) p0 p1 := by
  subst ex
  obtain ⟨T1, e1⟩ : ∃ S : List tc_Tok, S = T ++ (tc_addTo lv x (13 + 2 * ns)).1 := ⟨_, rfl⟩
  obtain ⟨T2, e2⟩ : ∃ S : List tc_Tok, S = T1 ++ [(2, 13 + 2 * ns, 0)] := ⟨_, rfl⟩
  have e3 : T' = T2 ++ [(1, 13 + 2 * ns, -1)] := by
    rw [e2, e1, eT]
    simp only [List.append_assoc, List.cons_append, List.nil_append]
  have m1 : T1.length = T.length + 9 := by rw [e1, List.length_append]; rfl
  have m2 : T2.length = T1.length + 1 := by rw [e2, List.length_append]; rfl
  have b1 : 13 + 2 * ns < 128 := by omega
  have bx : x < 128 := by omega
  have l0 : T.length + 9 ≤ 1000 := by omega
  have l1 : T1.length + 1 ≤ 1000 := by omega
  have l2 : T2.length + 1 ≤ 1000 := by omega
  have w0 : wt < 64 := by omega
  have w1 : wt + 1 < 64 := by omega
  delta wpX_writeRepeat
  refine tc_wturns ?_
  refine tc_waddTo lv x (13 + 2 * ns) e1 l0 bx b1 (fun o1 a1 p1 h1 => ?_) hp hh
  refine tc_put 2 (13 + 2 * ns) 0 e2 l1 b1 (fun o2 a2 p2 h2 => ?_) p1 h1
  refine tc_put 1 (13 + 2 * ns) (-1) e3 l2 b1 (fun o3 a3 p3 h3 => ?_) p2 h2
  refine nm_r (nI_1 ns) ?_
  refine tc_wlater 42 rfl w0 ?_
  refine tc_wlater y ey w1 ?_
  exact hw o3 a3 p3 h3
theorem tc_wotherwise {C : tc_C} {post : SX → Prop} {T T' : List tc_Tok} {tasks ops args : Nat → Int32} {wt : Int32} {ns : Nat} (eT : T' = T ++ [(3, 13 + 2 * ns, 0), (2, 14 + 2 * ns, 0), (1, 14 + 2 * ns, -1)]) (hl : T.length + 20 ≤ 1000) (hns : ns ≤ 1) (hw : tc_Wr C post T' wt (nI (ns + 1)) tasks) (hp : tc_pl 0 T < 128) (hh : tc_hold ops args 0 (tc_em 0 T)) : wpX_writeOtherwise post (C.1, C.2.1, C.2.2.1, nI (tc_em 0 (T)).length, nI (tc_pl 0 (T)), wt, nI (ns + 1), C.2.2.2.1, C.2.2.2.2.1, C.2.2.2.2.2.1, C.2.2.2.2.2.2.1, C.2.2.2.2.2.2.2.1, C.2.2.2.2.2.2.2.2.1, C.2.2.2.2.2.2.2.2.2.1, C.2.2.2.2.2.2.2.2.2.2.1, ops, args, tasks, C.2.2.2.2.2.2.2.2.2.2.2) := by
  obtain ⟨T1, e1⟩ : ∃ S : List tc_Tok, S = T ++ [(3, 13 + 2 * ns, 0)] := ⟨_, rfl⟩
  obtain ⟨T2, e2⟩ : ∃ S : List tc_Tok, S = T1 ++ [(2, 14 + 2 * ns, 0)] := ⟨_, rfl⟩
  have e3 : T' = T2 ++ [(1, 14 + 2 * ns, -1)] := by
    rw [e2, e1, eT]
    simp only [List.append_assoc, List.cons_append, List.nil_append]
  have m1 : T1.length = T.length + 1 := by rw [e1, List.length_append]; rfl
  have m2 : T2.length = T1.length + 1 := by rw [e2, List.length_append]; rfl
  have b1 : 13 + 2 * ns < 128 := by omega
  have b2 : 14 + 2 * ns < 128 := by omega
  have l0 : T.length + 1 ≤ 1000 := by omega
  have l1 : T1.length + 1 ≤ 1000 := by omega
  have l2 : T2.length + 1 ≤ 1000 := by omega
  delta wpX_writeOtherwise
  refine nm_r (nI_pred ns) ?_
  refine tc_wturns ?_
  refine tc_wother ?_
  refine tc_put 3 (13 + 2 * ns) 0 e1 l0 b1 (fun o1 a1 p1 h1 => ?_) hp hh
  refine tc_put 2 (14 + 2 * ns) 0 e2 l1 b2 (fun o2 a2 p2 h2 => ?_) p1 h1
  refine tc_put 1 (14 + 2 * ns) (-1) e3 l2 b2 (fun o3 a3 p3 h3 => ?_) p2 h2
  refine nm_r (nI_1 ns) ?_
  exact hw o3 a3 p3 h3
def tc_tk (tasks : Nat → Int32) : List Nat → Prop
  | [] => True
  | v :: r => tasks r.length = nI v ∧ tc_tk tasks r
theorem tc_tk_congr {a b : Nat → Int32} : ∀ q : List Nat, (∀ j, j < q.length → b j = a j) → tc_tk a q → tc_tk b q
  | [], _, _ => trivial
  | v :: r, h, hk => ⟨(h r.length (Nat.lt_succ_self _)).trans hk.1, tc_tk_congr r (fun j hj => h j (Nat.lt_succ_of_lt hj)) hk.2⟩
theorem tc_tk_push {a : Nat → Int32} {q : List Nat} (v : Nat) (h : tc_tk a q) : tc_tk (upd a q.length (nI v)) (v :: q) :=
  ⟨pk_us, tc_tk_congr q (fun j hj => pk_un (by omega)) h⟩
section
variable (K X Y Z Wt Nt : Nat → Nat)
def tc_rest (lv : Bool) : List Nat → Nat → List tc_Tok
  | [], _ => []
  | v :: r, ns =>
    if v = 40 then [(3, 13 + 2 * (ns - 1), 0), (2, 14 + 2 * (ns - 1), 0), (1, 14 + 2 * (ns - 1), -1)] ++ tc_rest lv r ns
    else if v = 41 then (3, 14 + 2 * (ns - 1), 0) :: tc_rest lv r (ns - 1)
    else if v = 42 then (3, 13 + 2 * (ns - 1), 0) :: tc_rest lv r (ns - 1)
    else (tc_cd K X Y Z lv 40 v ns).1 ++ tc_rest lv r ns
def tc_tn : List Nat → Nat
  | [] => 0
  | v :: r => (if 40 ≤ v then 1 else 3 * Wt v - 2) + tc_tn r
def tc_qv (n : Nat) : List Nat → Nat → Prop
  | [], ns => ns = 0
  | v :: r, ns =>
    if v = 40 then 1 ≤ ns ∧ ns ≤ 2 ∧ tc_qv n r ns
    else if v = 41 then 1 ≤ ns ∧ ns ≤ 2 ∧ tc_qv n r (ns - 1)
    else if v = 42 then 1 ≤ ns ∧ ns ≤ 2 ∧ tc_qv n r (ns - 1)
    else v < n ∧ ns + Nt v ≤ 2 ∧ tc_qv n r ns
end
theorem tc_rest_s (K X Y Z : Nat → Nat) (lv : Bool) (v : Nat) (r : List Nat) (ns : Nat) (h : v < 40) : tc_rest K X Y Z lv (v :: r) ns = (tc_cd K X Y Z lv 40 v ns).1 ++ tc_rest K X Y Z lv r ns := by
  show (if v = 40 then _ else if v = 41 then _ else if v = 42 then _ else _) = _
  rw [if_neg (by omega), if_neg (by omega), if_neg (by omega)]
theorem tc_qv_s {Nt : Nat → Nat} {n v : Nat} {r : List Nat} {ns : Nat} (h : v < 40) (h1 : v < n) (h2 : ns + Nt v ≤ 2) (h3 : tc_qv Nt n r ns) : tc_qv Nt n (v :: r) ns := by
  unfold tc_qv
  rw [if_neg (by omega), if_neg (by omega), if_neg (by omega)]
  exact ⟨h1, h2, h3⟩
theorem tc_tn_len {K X Y Z Wt Nt : Nat → Nat} {n : Nat} (ok : ∀ s, s < n → tc_Ok K X Y Z Wt Nt s) (hn : n ≤ 40) : ∀ (q : List Nat) (ns : Nat), tc_qv Nt n q ns → q.length ≤ tc_tn Wt q
  | [], _, _ => Nat.le_refl _
  | v :: r, ns, h => by
    show r.length + 1 ≤ (if 40 ≤ v then 1 else 3 * Wt v - 2) + tc_tn Wt r
    unfold tc_qv at h
    by_cases v40 : v = 40
    · rw [if_pos v40] at h
      have := tc_tn_len ok hn r _ h.2.2
      rw [if_pos (by omega)]
      omega
    rw [if_neg v40] at h
    by_cases v41 : v = 41
    · rw [if_pos v41] at h
      have := tc_tn_len ok hn r _ h.2.2
      rw [if_pos (by omega)]
      omega
    rw [if_neg v41] at h
    by_cases v42 : v = 42
    · rw [if_pos v42] at h
      have := tc_tn_len ok hn r _ h.2.2
      rw [if_pos (by omega)]
      omega
    rw [if_neg v42] at h
    have := tc_tn_len ok hn r _ h.2.2
    have := (ok v h.1).2.1
    have := h.1
    rw [if_neg (by omega)]
    omega
theorem tc_wcode {C : tc_C} {post : SX → Prop} {K X Y Z Wt Nt : Nat → Nat} (lv : Bool) (n : Nat) (hn : n ≤ 40) (ok : ∀ s, s < n → tc_Ok K X Y Z Wt Nt s) (hK : ∀ s, C.2.2.2.1 s = nI (K s)) (hX : ∀ s, C.2.2.2.2.1 s = nI (X s)) (hY : ∀ s, C.2.2.2.2.2.1 s = nI (Y s)) (hZ : ∀ s, C.2.2.2.2.2.2.1 s = nI (Z s)) :
    ∀ (fuel : Nat) (q : List Nat) (ns turn : Nat) (T : List tc_Tok) (tasks ops args : Nat → Int32), tc_tn Wt q < fuel → turn + tc_tn Wt q ≤ 64 → tc_qv Nt n q ns → tc_tk tasks q → T.length + (tc_rest K X Y Z lv q ns).length ≤ 900 →
      (∀ tasks', tc_Wr C post (T ++ tc_rest K X Y Z lv q ns) (nI 0) (nI 0) tasks') → tc_pl 0 T < 128 → tc_hold ops args 0 (tc_em 0 T) → wX_writeCode_27 post fuel (nI turn) C.1 C.2.1 C.2.2.1 (nI (tc_em 0 (T)).length) (nI (tc_pl 0 (T))) (nI q.length) (nI ns) C.2.2.2.1 C.2.2.2.2.1 C.2.2.2.2.2.1 C.2.2.2.2.2.2.1 C.2.2.2.2.2.2.2.1 C.2.2.2.2.2.2.2.2.1 C.2.2.2.2.2.2.2.2.2.1 C.2.2.2.2.2.2.2.2.2.2.1 ops args tasks C.2.2.2.2.2.2.2.2.2.2.2 := by
  intro fuel
  induction fuel with
  | zero => intro q ns turn T tasks ops args h; omega
  | succ fuel ih =>
    intro q ns turn T tasks ops args hf ht hv hk hlen hw hp hh
    have hql := tc_tn_len ok hn q ns hv
    cases q with
    | nil =>
      have hv : ns = 0 := hv
      subst hv
      have hw := tc_wr_cast (List.append_nil T).symm (hw tasks)
      by_cases h64 : turn = 64
      · subst h64
        exact br_t (nI_le (a := 64) (by omega) (by decide)) (hw ops args hp hh)
      · have : turn + 0 ≤ 64 := ht
        exact br_f (nI_ge (b := 64) (by omega) (by decide)) (br_t (nI_le (a := 0) (b := 0) (by omega) (by decide)) (hw ops args hp hh))
    | cons v r =>
      have hv' := hv
      have htn : tc_tn Wt (v :: r) = (if 40 ≤ v then 1 else 3 * Wt v - 2) + tc_tn Wt r := rfl
      have hrl : (v :: r).length = r.length + 1 := rfl
      have pos : 1 ≤ tc_tn Wt (v :: r) := by omega
      have hr64 : r.length < 64 := by omega
      have tk0 : tasks (nI r.length).toNatClampNeg = nI v := by rw [nI_clamp (by omega)]; exact hk.1
      refine br_f (nI_ge (b := 64) (by omega) (by decide)) (br_f (nI_ge (a := 0) (by omega) (by omega)) (nm_r (nI_pred r.length) ⟨vp_in_nI hr64 (by omega), nm_r tk0 ?_⟩))
      clear tk0
      by_cases v40 : v = 40
      · subst v40
        have hv2 : 1 ≤ ns ∧ ns ≤ 2 ∧ tc_qv Nt n r ns := hv
        obtain ⟨q1, q2, q3⟩ := hv2
        obtain ⟨ns', rfl⟩ : ∃ m, ns = m + 1 := ⟨ns - 1, by omega⟩
        have htn : tc_tn Wt (40 :: r) = 1 + tc_tn Wt r := rfl
        have hre : tc_rest K X Y Z lv (40 :: r) (ns' + 1) = [(3, 13 + 2 * ns', 0), (2, 14 + 2 * ns', 0), (1, 14 + 2 * ns', -1)] ++ tc_rest K X Y Z lv r (ns' + 1) := rfl
        rw [hre] at hlen hw
        have hl3 : ([(3, 13 + 2 * ns', 0), (2, 14 + 2 * ns', 0), (1, 14 + 2 * ns', -1)] ++ tc_rest K X Y Z lv r (ns' + 1)).length = 3 + (tc_rest K X Y Z lv r (ns' + 1)).length := by rw [List.length_append]; rfl
        rw [hl3] at hlen
        obtain ⟨T1, e1⟩ : ∃ S : List tc_Tok, S = T ++ [(3, 13 + 2 * ns', 0), (2, 14 + 2 * ns', 0), (1, 14 + 2 * ns', -1)] := ⟨_, rfl⟩
        have m1 : T1.length = T.length + 3 := by rw [e1, List.length_append]; rfl
        refine br_t rfl (tc_wotherwise e1 (by omega) (by omega) (fun o1 a1 p1 h1 => nm_r (nI_1 turn) (ih r (ns' + 1) (turn + 1) T1 tasks o1 a1 (by omega) (by omega) q3 hk.2 (by omega) (fun tk' => tc_wr_cast (by rw [e1, List.append_assoc]) (hw tk')) p1 h1)) hp hh)
      by_cases v41 : v = 41
      · subst v41
        have hv2 : 1 ≤ ns ∧ ns ≤ 2 ∧ tc_qv Nt n r (ns - 1) := hv
        obtain ⟨q1, q2, q3⟩ := hv2
        obtain ⟨ns', rfl⟩ : ∃ m, ns = m + 1 := ⟨ns - 1, by omega⟩
        have q3 : tc_qv Nt n r ns' := q3
        have htn : tc_tn Wt (41 :: r) = 1 + tc_tn Wt r := rfl
        have hre : tc_rest K X Y Z lv (41 :: r) (ns' + 1) = [(3, 14 + 2 * ns', 0)] ++ tc_rest K X Y Z lv r ns' := rfl
        rw [hre] at hlen hw
        rw [List.length_append, show ([(3, 14 + 2 * ns', 0)] : List tc_Tok).length = 1 from rfl] at hlen
        obtain ⟨T1, e1⟩ : ∃ S : List tc_Tok, S = T ++ [(3, 14 + 2 * ns', 0)] := ⟨_, rfl⟩
        have m1 : T1.length = T.length + 1 := by rw [e1, List.length_append]; rfl
        exact br_f (by decide) (br_t rfl (nm_r (nI_pred ns') (tc_wother (tc_put 3 (14 + 2 * ns') 0 e1 (by omega) (by omega) (fun o1 a1 p1 h1 => nm_r (nI_1 turn) (ih r ns' (turn + 1) T1 tasks o1 a1 (by omega) (by omega) q3 hk.2 (by omega) (fun tk' => tc_wr_cast (by rw [e1, List.append_assoc]) (hw tk')) p1 h1)) hp hh))))
      by_cases v42 : v = 42
      · subst v42
        have hv2 : 1 ≤ ns ∧ ns ≤ 2 ∧ tc_qv Nt n r (ns - 1) := hv
        obtain ⟨q1, q2, q3⟩ := hv2
        obtain ⟨ns', rfl⟩ : ∃ m, ns = m + 1 := ⟨ns - 1, by omega⟩
        have q3 : tc_qv Nt n r ns' := q3
        have htn : tc_tn Wt (42 :: r) = 1 + tc_tn Wt r := rfl
        have hre : tc_rest K X Y Z lv (42 :: r) (ns' + 1) = [(3, 13 + 2 * ns', 0)] ++ tc_rest K X Y Z lv r ns' := rfl
        rw [hre] at hlen hw
        rw [List.length_append, show ([(3, 13 + 2 * ns', 0)] : List tc_Tok).length = 1 from rfl] at hlen
        obtain ⟨T1, e1⟩ : ∃ S : List tc_Tok, S = T ++ [(3, 13 + 2 * ns', 0)] := ⟨_, rfl⟩
        have m1 : T1.length = T.length + 1 := by rw [e1, List.length_append]; rfl
        exact br_f (by decide) (br_f (by decide) (br_t rfl (nm_r (nI_pred ns') (tc_wturns (tc_put 3 (13 + 2 * ns') 0 e1 (by omega) (by omega) (fun o1 a1 p1 h1 => nm_r (nI_1 turn) (ih r ns' (turn + 1) T1 tasks o1 a1 (by omega) (by omega) q3 hk.2 (by omega) (fun tk' => tc_wr_cast (by rw [e1, List.append_assoc]) (hw tk')) p1 h1)) hp hh)))))
      have hv3 : v < n ∧ ns + Nt v ≤ 2 ∧ tc_qv Nt n r ns := by
        unfold tc_qv at hv
        rw [if_neg v40, if_neg v41, if_neg v42] at hv
        exact hv
      obtain ⟨q1, q2, q3⟩ := hv3
      rw [if_neg (by omega)] at htn
      have hre : tc_rest K X Y Z lv (v :: r) ns = (tc_cd K X Y Z lv 40 v ns).1 ++ tc_rest K X Y Z lv r ns := by
        show (if v = 40 then _ else if v = 41 then _ else if v = 42 then _ else _) = _
        rw [if_neg v40, if_neg v41, if_neg v42]
      rw [hre] at hlen hw
      rw [List.length_append] at hlen
      obtain ⟨o1', o2, o3, o4, o10, o11, o12, ox, oy0, oy, oz⟩ := ok v q1
      have clv : (nI v).toNatClampNeg = v := nI_clamp (by omega)
      have vin : vp_in (nI v) 40 := vp_in_nI (by omega) (by omega)
      have hKv : C.2.2.2.1 (nI v).toNatClampNeg = nI (K v) := by rw [clv]; exact hK v
      have hXv : C.2.2.2.2.1 (nI v).toNatClampNeg = nI (X v) := by rw [clv]; exact hX v
      have hYv : C.2.2.2.2.2.1 (nI v).toNatClampNeg = nI (Y v) := by rw [clv]; exact hY v
      have hZv : C.2.2.2.2.2.2.1 (nI v).toNatClampNeg = nI (Z v) := by rw [clv]; exact hZ v
      refine br_f (tc_ne (c := 40) (by omega) (by decide) v40) (br_f (tc_ne (c := 41) (by omega) (by decide) v41) (br_f (tc_ne (c := 42) (by omega) (by decide) v42) ⟨vin, ?_⟩))
      by_cases k10 : K v = 10
      · obtain ⟨c1, c2, c3, c4, c5⟩ := o10 k10
        have w1 := ok (X v) (by omega)
        have w2 := ok (Y v) (by omega)
        have ecd : (tc_cd K X Y Z lv 40 v ns).1 ++ tc_rest K X Y Z lv r ns = tc_rest K X Y Z lv (X v :: Y v :: r) ns := by
          have a1 : tc_rest K X Y Z lv (X v :: Y v :: r) ns = (tc_cd K X Y Z lv 40 (X v) ns).1 ++ ((tc_cd K X Y Z lv 40 (Y v) ns).1 ++ tc_rest K X Y Z lv r ns) := by
            rw [tc_rest_s _ _ _ _ _ _ _ _ (by omega), tc_rest_s _ _ _ _ _ _ _ _ (by omega)]
          rw [a1, ← List.append_assoc]
          refine congrArg (· ++ _) ?_
          have a2 : tc_cd K X Y Z lv 40 v ns = tc_seq (tc_cd K X Y Z lv 39 (X v) ns) (tc_cd K X Y Z lv 39 (Y v) ns) := by
            rw [tc_cd, if_pos k10]
          rw [a2, tc_cd_f K X Y Z Wt Nt lv n ok 39 40 (X v) ns (by omega) (by omega) (by omega), tc_cd_f K X Y Z Wt Nt lv n ok 39 40 (Y v) ns (by omega) (by omega) (by omega)]
          rfl
        have et : tc_tn Wt (X v :: Y v :: r) = 3 * Wt (X v) - 2 + (3 * Wt (Y v) - 2 + tc_tn Wt r) := by
          show (if 40 ≤ X v then 1 else 3 * Wt (X v) - 2) + ((if 40 ≤ Y v then 1 else 3 * Wt (Y v) - 2) + tc_tn Wt r) = _
          rw [if_neg (by omega), if_neg (by omega)]
        have eq' : tc_qv Nt n (X v :: Y v :: r) ns := tc_qv_s (by omega) (by omega) (by omega) (tc_qv_s (by omega) (by omega) (by omega) q3)
        have b1 := w1.2.1
        have b2 := w2.2.1
        have hq2 : r.length + 2 ≤ tc_tn Wt (X v :: Y v :: r) := tc_tn_len ok hn _ _ eq'
        refine br_t (hKv.trans (congrArg nI k10)) ⟨vin, tc_wlater (Y v) hYv hr64 ⟨vin, tc_wlater (X v) hXv (by omega) (nm_r (nI_1 turn) ?_)⟩⟩
        have hk2 := tc_tk_push (X v) (tc_tk_push (Y v) hk.2)
        rw [← List.length_append, ecd] at hlen
        exact ih (X v :: Y v :: r) ns (turn + 1) T _ ops args (by omega) (by omega) eq' hk2 hlen (fun tk' => tc_wr_cast (by rw [ecd]) (hw tk')) hp hh
      refine br_f (fun h => tc_ne (c := 10) (by omega) (by decide) k10 (hKv.symm.trans h)) ⟨vin, ?_⟩
      by_cases k11 : K v = 11
      · obtain ⟨c1, c2, c3, c4, c5⟩ := o11 k11
        have w1 := ok (Y v) (by omega)
        have w2 := ok (Z v) (by omega)
        have b1 := w1.2.1
        have b2 := w2.2.1
        obtain ⟨T1, e1⟩ : ∃ S : List tc_Tok, S = T ++ ((tc_addTo lv (X v) (13 + 2 * ns)).1 ++ ((1, 14 + 2 * ns, 1) :: (2, 13 + 2 * ns, 0) :: (1, 14 + 2 * ns, -1) :: (tc_clear lv (13 + 2 * ns)).1)) := ⟨_, rfl⟩
        have m1 : T1.length = T.length + 15 := by rw [e1, List.length_append]; rfl
        have ecd : T ++ ((tc_cd K X Y Z lv 40 v ns).1 ++ tc_rest K X Y Z lv r ns) = T1 ++ tc_rest K X Y Z lv (Y v :: 40 :: Z v :: 41 :: r) (ns + 1) := by
          have a1 : tc_rest K X Y Z lv (Y v :: 40 :: Z v :: 41 :: r) (ns + 1) = (tc_cd K X Y Z lv 40 (Y v) (ns + 1)).1 ++ ([(3, 13 + 2 * ns, 0), (2, 14 + 2 * ns, 0), (1, 14 + 2 * ns, -1)] ++ ((tc_cd K X Y Z lv 40 (Z v) (ns + 1)).1 ++ ((3, 14 + 2 * ns, 0) :: tc_rest K X Y Z lv r ns))) := by
            rw [tc_rest_s _ _ _ _ _ _ _ _ (by omega)]
            show _ ++ ([(3, 13 + 2 * ns, 0), (2, 14 + 2 * ns, 0), (1, 14 + 2 * ns, -1)] ++ tc_rest K X Y Z lv (Z v :: 41 :: r) (ns + 1)) = _
            rw [tc_rest_s _ _ _ _ _ _ _ _ (by omega)]
            rfl
          have a2 : tc_cd K X Y Z lv 40 v ns = tc_choose lv (X v) ns (tc_cd K X Y Z lv 39 (Y v) (ns + 1)) (tc_cd K X Y Z lv 39 (Z v) (ns + 1)) := by
            rw [tc_cd, if_neg k10, if_pos k11]
          rw [a1, e1, a2, tc_cd_f K X Y Z Wt Nt lv n ok 39 40 (Y v) (ns + 1) (by omega) (by omega) (by omega), tc_cd_f K X Y Z Wt Nt lv n ok 39 40 (Z v) (ns + 1) (by omega) (by omega) (by omega)]
          simp only [tc_choose, tc_seq, tc_loop, tc_tok, List.append_assoc, List.cons_append, List.nil_append]
        have elen := congrArg List.length ecd
        rw [List.length_append, List.length_append, List.length_append] at elen
        have et : tc_tn Wt (Y v :: 40 :: Z v :: 41 :: r) = 3 * Wt (Y v) - 2 + (1 + (3 * Wt (Z v) - 2 + (1 + tc_tn Wt r))) := by
          show (if 40 ≤ Y v then 1 else 3 * Wt (Y v) - 2) + (1 + ((if 40 ≤ Z v then 1 else 3 * Wt (Z v) - 2) + (1 + tc_tn Wt r))) = _
          rw [if_neg (by omega), if_neg (by omega)]
        have eq' : tc_qv Nt n (Y v :: 40 :: Z v :: 41 :: r) (ns + 1) := tc_qv_s (by omega) (by omega) (by omega) ⟨by omega, by omega, tc_qv_s (by omega) (by omega) (by omega) ⟨by omega, by omega, q3⟩⟩
        have hq2 : r.length + 4 ≤ tc_tn Wt (Y v :: 40 :: Z v :: 41 :: r) := tc_tn_len ok hn _ _ eq'
        refine br_t (hKv.trans (congrArg nI k11)) ⟨vin, vin, vin, tc_wchoose lv (X v) (Y v) (Z v) hXv hYv hZv e1 (by omega) (ox k10) (by omega) (by omega) (fun o1 a1 p1 h1 => nm_r (nI_1 turn) ?_) hp hh⟩
        have hk2 := tc_tk_push (Y v) (tc_tk_push 40 (tc_tk_push (Z v) (tc_tk_push 41 hk.2)))
        exact ih (Y v :: 40 :: Z v :: 41 :: r) (ns + 1) (turn + 1) T1 _ o1 a1 (by omega) (by omega) eq' hk2 (by omega) (fun tk' => tc_wr_cast ecd.symm (hw tk')) p1 h1
      refine br_f (fun h => tc_ne (c := 11) (by omega) (by decide) k11 (hKv.symm.trans h)) ⟨vin, ?_⟩
      by_cases k12 : K v = 12
      · obtain ⟨c1, c2, c3⟩ := o12 k12
        have w1 := ok (Y v) (by omega)
        have b1 := w1.2.1
        obtain ⟨T1, e1⟩ : ∃ S : List tc_Tok, S = T ++ ((tc_addTo lv (X v) (13 + 2 * ns)).1 ++ [(2, 13 + 2 * ns, 0), (1, 13 + 2 * ns, -1)]) := ⟨_, rfl⟩
        have m1 : T1.length = T.length + 11 := by rw [e1, List.length_append]; rfl
        have ecd : T ++ ((tc_cd K X Y Z lv 40 v ns).1 ++ tc_rest K X Y Z lv r ns) = T1 ++ tc_rest K X Y Z lv (Y v :: 42 :: r) (ns + 1) := by
          have a1 : tc_rest K X Y Z lv (Y v :: 42 :: r) (ns + 1) = (tc_cd K X Y Z lv 40 (Y v) (ns + 1)).1 ++ ((3, 13 + 2 * ns, 0) :: tc_rest K X Y Z lv r ns) := by
            rw [tc_rest_s _ _ _ _ _ _ _ _ (by omega)]
            rfl
          have a2 : tc_cd K X Y Z lv 40 v ns = tc_repeat lv (X v) ns (tc_cd K X Y Z lv 39 (Y v) (ns + 1)) := by
            rw [tc_cd, if_neg k10, if_neg k11, if_pos k12]
          rw [a1, e1, a2, tc_cd_f K X Y Z Wt Nt lv n ok 39 40 (Y v) (ns + 1) (by omega) (by omega) (by omega)]
          simp only [tc_repeat, tc_seq, tc_loop, tc_tok, List.append_assoc, List.cons_append, List.nil_append]
        have elen := congrArg List.length ecd
        rw [List.length_append, List.length_append, List.length_append] at elen
        have et : tc_tn Wt (Y v :: 42 :: r) = 3 * Wt (Y v) - 2 + (1 + tc_tn Wt r) := by
          show (if 40 ≤ Y v then 1 else 3 * Wt (Y v) - 2) + (1 + tc_tn Wt r) = _
          rw [if_neg (by omega)]
        have eq' : tc_qv Nt n (Y v :: 42 :: r) (ns + 1) := tc_qv_s (by omega) (by omega) (by omega) ⟨by omega, by omega, q3⟩
        have hq2 : r.length + 2 ≤ tc_tn Wt (Y v :: 42 :: r) := tc_tn_len ok hn _ _ eq'
        refine br_t (hKv.trans (congrArg nI k12)) ⟨vin, vin, tc_wrepeat lv (X v) (Y v) hXv hYv e1 (by omega) (ox k10) (by omega) (by omega) (fun o1 a1 p1 h1 => nm_r (nI_1 turn) ?_) hp hh⟩
        have hk2 := tc_tk_push (Y v) (tc_tk_push 42 hk.2)
        exact ih (Y v :: 42 :: r) (ns + 1) (turn + 1) T1 _ o1 a1 (by omega) (by omega) eq' hk2 (by omega) (fun tk' => tc_wr_cast ecd.symm (hw tk')) p1 h1
      refine br_f (fun h => tc_ne (c := 12) (by omega) (by decide) k12 (hKv.symm.trans h)) ⟨vin, vin, vin, vin, ?_⟩
      have a2 : tc_cd K X Y Z lv 40 v ns = tc_simple lv (K v) (X v) (Y v) (Z v) := by
        rw [tc_cd, if_neg k10, if_neg k11, if_neg k12]
      rw [a2] at hlen hw
      obtain ⟨T1, e1⟩ : ∃ S : List tc_Tok, S = T ++ (tc_simple lv (K v) (X v) (Y v) (Z v)).1 := ⟨_, rfl⟩
      have m1 : T1.length = T.length + (tc_simple lv (K v) (X v) (Y v) (Z v)).1.length := by rw [e1, List.length_append]
      rw [hKv, hXv, hYv, hZv]
      refine tc_wsimple lv (K v) (X v) (Y v) (Z v) (by omega) o1' k10 k11 k12 (ox k10) (fun e1 e2 => oy e1 e2 k10 k11 k12) (fun e => oz (by omega)) (fun o1 a1 p1 h1 => nm_r (nI_1 turn) ?_) hp hh
      rw [← e1] at p1 h1 ⊢
      exact ih r ns (turn + 1) T1 tasks o1 a1 (by omega) (by omega) q3 hk.2 (by omega) (fun tk' => tc_wr_cast (by rw [e1, List.append_assoc]) (hw tk')) p1 h1
