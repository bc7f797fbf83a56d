/-! part 08: matching and folding, by the pieces -/
def tc_cf : Int32 → Int32 → List tc_Raw → Bool
  | aw, ow, [] => decide (aw = 0) && decide (ow = -1)
  | aw, ow, x :: L => if x.1 = 0 then tc_cf (aw + x.2) ow L else if x.1 = 1 then (if aw = 0 then tc_cf aw (ow + x.2) L else tc_cf aw ow L) else false
theorem tc_cf_no : ∀ (L : List tc_Raw) (aw ow : Int32), (∃ x, x ∈ L ∧ x.1 ≠ 0 ∧ x.1 ≠ 1) → tc_cf aw ow L = false
  | [], _, _, ⟨x, h, _⟩ => by cases h
  | y :: L, aw, ow, ⟨x, h, h0, h1⟩ => by
    unfold tc_cf
    by_cases e0 : y.1 = 0
    · rw [if_pos e0]
      refine tc_cf_no L _ _ ⟨x, ?_, h0, h1⟩
      cases h with
      | head => exact absurd e0 h0
      | tail _ h => exact h
    · rw [if_neg e0]
      by_cases e1 : y.1 = 1
      · rw [if_pos e1]
        have : ∃ x, x ∈ L ∧ x.1 ≠ 0 ∧ x.1 ≠ 1 := by
          refine ⟨x, ?_, h0, h1⟩
          cases h with
          | head => exact absurd e1 h1
          | tail _ h => exact h
        by_cases ea : aw = 0
        · rw [if_pos ea]; exact tc_cf_no L _ _ this
        · rw [if_neg ea]; exact tc_cf_no L _ _ this
      · rw [if_neg e1]
def tc_MR (lev : Int32) (len : Nat) (W : Nat → Nat → (Nat → Int32) → (Nat → Int32) → (Nat → Int32) → Prop) : Prop :=
  (∀ d i ops args st, i < len → ops i ≠ 2 → ops i ≠ 3 → W d (i + 1) ops args st → W d i ops args st) ∧
  (∀ d i ops args st, i < len → ops i = 2 → d < 16 → W (d + 1) (i + 1) ops args (upd st d (nI i)) → W d i ops args st) ∧
  (∀ d i ops args st s L, i < len → ops i = 3 → d < 16 → st d = nI s → tc_hold ops args (s + 1) L → i = s + 1 + L.length →
    W d (i + 1) (if lev = 1 ∧ tc_cf 0 0 L = true then upd (upd ops s 5) i 6 else ops) (upd (upd args s (nI i)) i (nI s)) st → W (d + 1) i ops args st)
def tc_MT (lev : Int32) (dp : Nat) (a : tc_Fr) : Prop :=
  (∀ p o, (a.2 p o).length = (tc_em p a.1).length) ∧
  ∀ (len : Nat) (W : Nat → Nat → (Nat → Int32) → (Nat → Int32) → (Nat → Int32) → Prop), tc_MR lev len W → ∀ p o d ops args st, tc_hold ops args o (tc_em p a.1) → o + (tc_em p a.1).length ≤ len → d + dp ≤ 16 →
    (∀ ops' args' st', tc_hold ops' args' o (a.2 p o) → (∀ j, (j < o ∨ o + (tc_em p a.1).length ≤ j) → ops' j = ops j ∧ args' j = args j) → (∀ j, j < d → st' j = st j) → W d (o + (tc_em p a.1).length) ops' args' st') → W d o ops args st
theorem tc_mt_mv {lev : Int32} {len : Nat} {W : Nat → Nat → (Nat → Int32) → (Nat → Int32) → (Nat → Int32) → Prop} (H : tc_MR lev len W) {p c o d : Nat} {ops args st : Nat → Int32} (hh : tc_hold ops args o (tc_mv p c)) (hl : o + (tc_mv p c).length ≤ len) (hw : W d (o + (tc_mv p c).length) ops args st) : W d o ops args st := by
  unfold tc_mv at hh hl hw
  by_cases e : c = p
  · rw [if_pos e] at hw
    exact hw
  · rw [if_neg e] at hh hl hw
    have h0 : ops o = 0 := hh.1
    refine H.1 d o ops args st (by have : o + 1 ≤ len := hl; omega) ?_ ?_ hw
    · rw [h0]; decide
    · rw [h0]; decide
theorem tc_mt_le {lev : Int32} {dp dp' : Nat} {a : tc_Fr} (h : tc_MT lev dp a) (hd : dp ≤ dp') : tc_MT lev dp' a :=
  ⟨h.1, fun len W H p o d ops args st h1 h2 h3 => h.2 len W H p o d ops args st h1 h2 (by omega)⟩
theorem tc_mt_tok {lev : Int32} {dp : Nat} {op : Int32} {c : Nat} {n : Int32} (h2 : op ≠ 2) (h3 : op ≠ 3) : tc_MT lev dp (tc_tok (op, c, n)) := by
  refine ⟨fun p o => rfl, ?_⟩
  intro len W H p o d ops args st hh hl hd hw
  have hA := (tc_hold_app (tc_mv p c) o [(op, n)]).mp hh
  have el : (tc_em p (tc_tok (op, c, n)).1).length = (tc_mv p c).length + 1 := List.length_append
  have hw := hw ops args st hh (fun _ _ => ⟨rfl, rfl⟩) (fun _ _ => rfl)
  rw [el, ← Nat.add_assoc] at hl hw
  refine tc_mt_mv H hA.1 (by omega) ?_
  refine H.1 d _ ops args st (by omega) ?_ ?_ hw
  · rw [hA.2.1]; exact h2
  · rw [hA.2.1]; exact h3
theorem tc_mt_seq {lev : Int32} {dp : Nat} {a b : tc_Fr} (ha : tc_MT lev dp a) (hb : tc_MT lev dp b) : tc_MT lev dp (tc_seq a b) := by
  refine ⟨fun p o => ?_, ?_⟩
  · show (a.2 p o ++ b.2 _ _).length = (tc_em p (a.1 ++ b.1)).length
    rw [tc_em_app, List.length_append, List.length_append, ha.1, hb.1]
  intro len W H p o d ops args st hh hl hd hw
  have hh' : tc_hold ops args o (tc_em p a.1 ++ tc_em (tc_pl p a.1) b.1) := by rw [← tc_em_app]; exact hh
  have hA := (tc_hold_app _ _ _).mp hh'
  have el : (tc_em p (tc_seq a b).1).length = (tc_em p a.1).length + (tc_em (tc_pl p a.1) b.1).length := by
    show (tc_em p (a.1 ++ b.1)).length = _
    rw [tc_em_app, List.length_append]
  rw [el] at hl
  refine ha.2 len W H p o d ops args st hA.1 (by omega) hd ?_
  intro ops1 args1 st1 g1 g2 g3
  refine hb.2 len W H (tc_pl p a.1) _ d ops1 args1 st1 ?_ (by omega) hd ?_
  · exact tc_hold_congr _ _ (fun j h1 h2 => g2 j (Or.inr h1)) hA.2
  intro ops2 args2 st2 f1 f2 f3
  rw [Nat.add_assoc, ← el]
  refine hw ops2 args2 st2 ?_ ?_ ?_
  · show tc_hold ops2 args2 o (a.2 p o ++ b.2 (tc_pl p a.1) (o + (a.2 p o).length))
    rw [tc_hold_app]
    refine ⟨?_, ?_⟩
    · exact tc_hold_congr _ _ (fun j h1 h2 => f2 j (Or.inl (by rw [ha.1] at h2; exact h2))) g1
    · rw [ha.1]
      exact f1
  · intro j hj
    rw [el] at hj
    have q1 := f2 j (by omega)
    have q2 := g2 j (by omega)
    exact ⟨q1.1.trans q2.1, q1.2.trans q2.2⟩
  · intro j hj
    exact (f3 j hj).trans (g3 j hj)
theorem tc_mt_loop {lev : Int32} {dp : Nat} {fd : Bool} {c : Nat} {a : tc_Fr} (ha : tc_MT lev dp a) (h1 : lev = 1 → ∀ s, tc_cf 0 0 (tc_bd c a s) = fd) (h2 : lev ≠ 1 → fd = false) : tc_MT lev (dp + 1) (tc_loop fd c a) := by
  have ee : ∀ p, tc_em p (tc_loop fd c a).1 = tc_mv p c ++ (2, 0) :: (tc_em c a.1 ++ (tc_mv (tc_pl c a.1) c ++ [(3, 0)])) := by
    intro p
    show tc_mv p c ++ (2, 0) :: tc_em c (a.1 ++ [(3, c, 0)]) = _
    rw [tc_em_app]
    rfl
  have eb : ∀ s, (tc_bd c a s).length = (tc_em c a.1).length + (tc_mv (tc_pl c a.1) c).length := by
    intro s
    show (a.2 c (s + 1) ++ _).length = _
    rw [List.length_append, ha.1]
  have el : ∀ p, (tc_em p (tc_loop fd c a).1).length = (tc_mv p c).length + (1 + ((tc_em c a.1).length + (tc_mv (tc_pl c a.1) c).length) + 1) := by
    intro p
    rw [ee]
    simp only [List.length_append, List.length_cons, List.length_nil]
    omega
  refine ⟨fun p o => ?_, ?_⟩
  · rw [el]
    show (tc_mv p c ++ _ :: (tc_bd c a (o + (tc_mv p c).length) ++ [_])).length = _
    simp only [List.length_append, List.length_cons, List.length_nil, eb]
    omega
  intro len W H p o d ops args st hh hl hd hw
  rw [ee] at hh
  rw [el] at hl hw
  have q1 := (tc_hold_app _ _ _).mp hh
  have q2 := (tc_hold_app _ _ _).mp q1.2.2.2
  have q3 := (tc_hold_app _ _ _).mp q2.2
  have qo : ops (o + (tc_mv p c).length) = 2 := q1.2.1
  refine tc_mt_mv H q1.1 (by omega) ?_
  generalize hS : o + (tc_mv p c).length = s at *
  refine H.2.1 d s ops args st (by omega) qo (by omega) ?_
  refine ha.2 len W H c (s + 1) (d + 1) ops args _ q2.1 (by omega) (by omega) ?_
  intro ops1 args1 st1 g1 g2 g3
  have k1 : tc_hold ops1 args1 (s + 1 + (tc_em c a.1).length) (tc_mv (tc_pl c a.1) c) := tc_hold_congr _ _ (fun j h1 h2 => g2 j (Or.inr h1)) q3.1
  refine tc_mt_mv H k1 (by omega) ?_
  have kb : tc_hold ops1 args1 (s + 1) (tc_bd c a s) := by
    show tc_hold ops1 args1 (s + 1) (a.2 c (s + 1) ++ tc_mv (tc_pl c a.1) c)
    rw [tc_hold_app, ha.1]
    exact ⟨g1, k1⟩
  generalize hE : s + 1 + (tc_em c a.1).length + (tc_mv (tc_pl c a.1) c).length = e at *
  have he : e = s + 1 + (tc_bd c a s).length := by rw [eb, ← hE]; omega
  have oe : ops1 e = 3 := (g2 e (Or.inr (by omega))).1.trans q3.2.1
  have os : ops1 s = 2 := (g2 s (Or.inl (by omega))).1.trans qo
  have sd : st1 d = nI s := (g3 d (by omega)).trans pk_us
  refine H.2.2 d e ops1 args1 st1 s (tc_bd c a s) (by omega) oe (by omega) sd kb he ?_
  have hfin := hw (if lev = 1 ∧ tc_cf 0 0 (tc_bd c a s) = true then upd (upd ops1 s 5) e 6 else ops1) (upd (upd args1 s (nI e)) e (nI s)) st1 ?_ ?_ ?_
  · rw [show o + ((tc_mv p c).length + (1 + ((tc_em c a.1).length + (tc_mv (tc_pl c a.1) c).length) + 1)) = e + 1 from by omega] at hfin
    exact hfin
  · have cnd : (lev = 1 ∧ tc_cf 0 0 (tc_bd c a s) = true) ↔ fd = true := by
      by_cases hl1 : lev = 1
      · rw [h1 hl1 s]
        exact ⟨fun h => h.2, fun h => ⟨hl1, h⟩⟩
      · rw [h2 hl1]
        exact ⟨fun h => absurd h.1 hl1, fun h => by cases h⟩
    have out : ∀ j, j ≠ s → j ≠ e → (if lev = 1 ∧ tc_cf 0 0 (tc_bd c a s) = true then upd (upd ops1 s 5) e 6 else ops1) j = ops1 j ∧ upd (upd args1 s (nI e)) e (nI s) j = args1 j := by
      intro j hj1 hj2
      refine ⟨?_, by rw [pk_un hj2, pk_un hj1]⟩
      by_cases hc : lev = 1 ∧ tc_cf 0 0 (tc_bd c a s) = true
      · rw [if_pos hc, pk_un hj2, pk_un hj1]
      · rw [if_neg hc]
    show tc_hold _ _ o (tc_mv p c ++ _ :: (tc_bd c a (o + (tc_mv p c).length) ++ [_]))
    rw [tc_hold_app, hS]
    refine ⟨?_, ?_, ?_, ?_⟩
    · refine tc_hold_congr _ _ (fun j j1 j2 => ?_) q1.1
      have := out j (by omega) (by omega)
      have q := g2 j (Or.inl (by omega))
      exact ⟨this.1.trans q.1, this.2.trans q.2⟩
    · by_cases hc : lev = 1 ∧ tc_cf 0 0 (tc_bd c a s) = true
      · rw [if_pos hc, pk_un (by omega), pk_us, if_pos (cnd.mp hc)]
      · rw [if_neg hc, os, if_neg (fun h => hc (cnd.mpr h))]
    · rw [pk_un (by omega), pk_us, he]
    · rw [tc_hold_app, ← he]
      refine ⟨tc_hold_congr _ _ (fun j j1 j2 => out j (by omega) (by omega)) kb, ?_, ?_, trivial⟩
      · by_cases hc : lev = 1 ∧ tc_cf 0 0 (tc_bd c a s) = true
        · rw [if_pos hc, pk_us, if_pos (cnd.mp hc)]
        · rw [if_neg hc, oe, if_neg (fun h => hc (cnd.mpr h))]
      · rw [pk_us]
  · intro j hj
    have hjs : j ≠ s := by omega
    have hje : j ≠ e := by omega
    have q := g2 j (by omega)
    refine ⟨?_, by rw [pk_un hje, pk_un hjs]; exact q.2⟩
    by_cases hc : lev = 1 ∧ tc_cf 0 0 (tc_bd c a s) = true
    · rw [if_pos hc, pk_un hje, pk_un hjs]; exact q.1
    · rw [if_neg hc]; exact q.1
  · intro j hj
    exact (g3 j (by omega)).trans (pk_un (by omega))
/-- pieces that hold more than moves and adds -/
def tc_Nf (a : tc_Fr) : Prop := ∀ p o, ∃ x, x ∈ a.2 p o ∧ x.1 ≠ 0 ∧ x.1 ≠ 1
theorem tc_nf_l {a b : tc_Fr} (h : tc_Nf a) : tc_Nf (tc_seq a b) := fun p o => by
  obtain ⟨x, h1, h2⟩ := h p o
  exact ⟨x, List.mem_append_left _ h1, h2⟩
theorem tc_nf_r {a b : tc_Fr} (h : tc_Nf b) : tc_Nf (tc_seq a b) := fun p o => by
  obtain ⟨x, h1, h2⟩ := h (tc_pl p a.1) (o + (a.2 p o).length)
  exact ⟨x, List.mem_append_right _ h1, h2⟩
theorem tc_nf_loop (fd : Bool) (c : Nat) (a : tc_Fr) : tc_Nf (tc_loop fd c a) := fun p o => by
  refine ⟨_, List.mem_append_right _ (List.mem_cons_self), ?_, ?_⟩
  · show (if fd then (5 : Int32) else 2) ≠ 0
    cases fd
    · decide
    · decide
  · show (if fd then (5 : Int32) else 2) ≠ 1
    cases fd
    · decide
    · decide
theorem tc_mt_loopN {lev : Int32} {dp : Nat} {c : Nat} {a : tc_Fr} (ha : tc_MT lev dp a) (hn : tc_Nf a) : tc_MT lev (dp + 1) (tc_loop false c a) := by
  refine tc_mt_loop ha (fun _ s => tc_cf_no _ _ _ ?_) (fun _ => rfl)
  obtain ⟨x, h1, h2⟩ := hn c (s + 1)
  exact ⟨x, List.mem_append_left _ h1, h2⟩
