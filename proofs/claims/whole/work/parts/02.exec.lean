/-! part 02: pieces of code, what matching makes of them, what carrying them out does -/
abbrev tc_Fr : Type := List tc_Tok × (Nat → Nat → List tc_Raw)
def tc_tok (k : tc_Tok) : tc_Fr := ([k], fun p _ => tc_em p [k])
def tc_seq (a b : tc_Fr) : tc_Fr := (a.1 ++ b.1, fun p o => a.2 p o ++ b.2 (tc_pl p a.1) (o + (a.2 p o).length))
/-- the inner list of a loop that stands with its OPEN at s -/
def tc_bd (c : Nat) (a : tc_Fr) (s : Nat) : List tc_Raw := a.2 c (s + 1) ++ tc_mv (tc_pl c a.1) c
def tc_loop (fd : Bool) (c : Nat) (a : tc_Fr) : tc_Fr :=
  ((2, c, 0) :: (a.1 ++ [(3, c, 0)]), fun p o =>
    tc_mv p c ++ ((if fd then 5 else 2), nI (o + (tc_mv p c).length + 1 + (tc_bd c a (o + (tc_mv p c).length)).length)) ::
      (tc_bd c a (o + (tc_mv p c).length) ++ [((if fd then 6 else 3), nI (o + (tc_mv p c).length))]))
/-- from place p over base b, tape t and said w, the piece a ends within n steps over base b', tape t', said w' -/
def tc_Sm (tm : Fin 16) (a : tc_Fr) (n b p : Nat) (t : Nat → Fin 16) (w : tc_Out) (b' : Nat) (t' : Nat → Fin 16) (w' : tc_Out) : Prop :=
  ∀ (ops args : Nat → Int32) (len : Nat) (W : Nat → Nat → Nat → Fin 16 → (Nat → Fin 16) → tc_Out → Prop), tc_Mach ops args len W →
    ∀ o, tc_hold ops args o (a.2 p o) → o + (a.2 p o).length ≤ len →
      ∀ m, W m (o + (a.2 p o).length) (b' + tc_pl p a.1) tm t' w' → W (m + n) o (b + p) tm t w
abbrev tc_Sp (a : tc_Fr) (n b p : Nat) (t : Nat → Fin 16) (w : tc_Out) (b' : Nat) (t' : Nat → Fin 16) (w' : tc_Out) : Prop := tc_Sm 1 a n b p t w b' t' w'
theorem tc_mono {ops args : Nat → Int32} {len : Nat} {W : Nat → Nat → Nat → Fin 16 → (Nat → Fin 16) → tc_Out → Prop} (H : tc_Mach ops args len W) {m i h : Nat} {tm : Fin 16} {t : Nat → Fin 16} {w : tc_Out} (k : Nat) (hw : W m i h tm t w) : W (m + k) i h tm t w := by
  induction k with
  | zero => exact hw
  | succ k ih => exact H.1 _ _ _ _ _ _ ih
theorem tc_sp_le {a : tc_Fr} {n n' b p : Nat} {t : Nat → Fin 16} {w : tc_Out} {b' : Nat} {t' : Nat → Fin 16} {w' : tc_Out} (h : tc_Sp a n b p t w b' t' w') (hn : n ≤ n') : tc_Sp a n' b p t w b' t' w' := by
  intro ops args len W H o h1 h2 m hw
  have := tc_mono H (n' - n) (h ops args len W H o h1 h2 m hw)
  rw [show m + n' = m + n + (n' - n) from by omega]
  exact this
theorem tc_sp_cast {a : tc_Fr} {n b p : Nat} {t : Nat → Fin 16} {w : tc_Out} {b' : Nat} {t' t'' : Nat → Fin 16} {w' : tc_Out} (h : tc_Sp a n b p t w b' t' w') (e : t' = t'') : tc_Sp a n b p t w b' t'' w' := e ▸ h
theorem tc_sp_seq {tm : Fin 16} {a c : tc_Fr} {n1 n2 b p : Nat} {t : Nat → Fin 16} {w : tc_Out} {b1 : Nat} {t1 : Nat → Fin 16} {w1 : tc_Out} {b2 : Nat} {t2 : Nat → Fin 16} {w2 : tc_Out} (h1 : tc_Sm tm a n1 b p t w b1 t1 w1) (h2 : tc_Sm tm c n2 b1 (tc_pl p a.1) t1 w1 b2 t2 w2) : tc_Sm tm (tc_seq a c) (n1 + n2) b p t w b2 t2 w2 := by
  intro ops args len W H o hh hl m hw
  have hA := (tc_hold_app _ _ _).mp hh
  have el : ((tc_seq a c).2 p o).length = (a.2 p o).length + (c.2 (tc_pl p a.1) (o + (a.2 p o).length)).length := List.length_append
  rw [el] at hl hw
  rw [show (tc_seq a c).1 = a.1 ++ c.1 from rfl, tc_pl_app] at hw
  rw [← Nat.add_assoc] at hw hl
  have := h1 ops args len W H o hA.1 (by omega) (m + n2) (h2 ops args len W H _ hA.2 hl m hw)
  rw [show m + (n1 + n2) = m + n2 + n1 from by omega]
  exact this
theorem tc_headmv {b p c : Nat} (hc : b + c < 128) : (nI (b + p) + (nI c - nI p)) &&& 127 = nI (b + c) := by
  rw [show nI (b + p) + (nI c - nI p) = nI (b + c) from by rw [← nI_add, ← nI_add]; grind]
  rw [pk_andN (by omega) 7 (by decide), Nat.mod_eq_of_lt (by omega)]
theorem tc_mvstep {ops args : Nat → Int32} {len : Nat} {W : Nat → Nat → Nat → Fin 16 → (Nat → Fin 16) → tc_Out → Prop} (H : tc_Mach ops args len W) {m o b p c : Nat} {tm : Fin 16} {t : Nat → Fin 16} {w : tc_Out} (hc : b + c < 128) (hh : tc_hold ops args o (tc_mv p c)) (hl : o + (tc_mv p c).length ≤ len) (hw : W m (o + (tc_mv p c).length) (b + c) tm t w) : W (m + 1) o (b + p) tm t w := by
  unfold tc_mv at hh hl hw
  by_cases e : c = p
  · rw [if_pos e] at hw
    rw [e] at hw
    exact H.1 _ _ _ _ _ _ hw
  · rw [if_neg e] at hh hl hw
    refine H.2.1 m o (b + p) (b + c) tm t w (by have : o + 1 ≤ len := hl; omega) hh.1 ?_ hw
    rw [hh.2.1]
    exact tc_headmv hc
theorem tc_sm_add {tm : Fin 16} {c : Nat} {n : Int32} {b p : Nat} {t : Nat → Fin 16} {w : tc_Out} (hc : b + c < 128) : tc_Sm tm (tc_tok (1, c, n)) 2 b p t w b (tc_up t (b + c) (t (b + c) + tc_toV n * tm)) w := by
  intro ops args len W H o hh hl m hw
  have hA := (tc_hold_app (tc_mv p c) o [(1, n)]).mp hh
  have el : ((tc_tok (1, c, n)).2 p o).length = (tc_mv p c).length + 1 := List.length_append
  rw [el, ← Nat.add_assoc] at hl hw
  refine tc_mvstep H (m := m + 1) hc hA.1 (by omega) ?_
  refine H.2.2.1 m _ _ _ _ _ (by omega) hA.2.1 hc ?_
  rw [hA.2.2.1]
  exact hw
theorem tc_sp_add {c : Nat} {n : Int32} {b p : Nat} {t : Nat → Fin 16} {w : tc_Out} (hc : b + c < 128) : tc_Sp (tc_tok (1, c, n)) 2 b p t w b (tc_up t (b + c) (t (b + c) + tc_toV n)) w := by
  have := tc_sm_add (tm := 1) (c := c) (n := n) (b := b) (p := p) (t := t) (w := w) hc
  rw [show tc_toV n * 1 = tc_toV n from Fin.mul_one _] at this
  exact this
theorem tc_sp_walk {c : Nat} {n : Int32} {b b' p : Nat} {t : Nat → Fin 16} {w : tc_Out} (hc : b + c < 128) (hn : (nI (b + c) + n) &&& 127 = nI (b' + c)) : tc_Sp (tc_tok (0, c, n)) 2 b p t w b' t w := by
  intro ops args len W H o hh hl m hw
  have hA := (tc_hold_app (tc_mv p c) o [(0, n)]).mp hh
  have el : ((tc_tok (0, c, n)).2 p o).length = (tc_mv p c).length + 1 := List.length_append
  rw [el, ← Nat.add_assoc] at hl hw
  refine tc_mvstep H (m := m + 1) hc hA.1 (by omega) ?_
  refine H.2.1 m _ _ (b' + c) _ _ _ (by omega) hA.2.1 ?_ hw
  rw [hA.2.2.1]
  exact hn
theorem tc_sp_print {c : Nat} {n : Int32} {b p : Nat} {t : Nat → Fin 16} {w : tc_Out} (hc : b + c < 128) : tc_Sp (tc_tok (4, c, n)) 2 b p t w b t (tc_say w (tc_I (t (b + c)))) := by
  intro ops args len W H o hh hl m hw
  have hA := (tc_hold_app (tc_mv p c) o [(4, n)]).mp hh
  have el : ((tc_tok (4, c, n)).2 p o).length = (tc_mv p c).length + 1 := List.length_append
  rw [el, ← Nat.add_assoc] at hl hw
  refine tc_mvstep H (m := m + 1) hc hA.1 (by omega) ?_
  exact H.2.2.2.2.2.1 m _ _ _ _ _ (by omega) hA.2.1 hc hw
/-- the parts of a loop's code -/
theorem tc_loop_parts {fd : Bool} {c : Nat} {a : tc_Fr} {p o : Nat} {ops args : Nat → Int32} {s B e : Nat} (hs : s = o + (tc_mv p c).length) (hB : B = (a.2 c (s + 1)).length) (he : e = s + 1 + B + (tc_mv (tc_pl c a.1) c).length) (hh : tc_hold ops args o ((tc_loop fd c a).2 p o)) :
    o + ((tc_loop fd c a).2 p o).length = e + 1 ∧ tc_hold ops args o (tc_mv p c) ∧ ops s = (if fd then 5 else 2) ∧ args s = nI e ∧ tc_hold ops args (s + 1) (a.2 c (s + 1)) ∧ tc_hold ops args (s + 1 + B) (tc_mv (tc_pl c a.1) c) ∧ ops e = (if fd then 6 else 3) ∧ args e = nI s := by
  subst hs hB
  have h1 := (tc_hold_app _ _ _).mp hh
  have h2 := h1.2.2.2
  have h3 := (tc_hold_app _ _ _).mp h2
  have h4 := (tc_hold_app (a.2 c (o + (tc_mv p c).length + 1)) _ _).mp h3.1
  have eb : (tc_bd c a (o + (tc_mv p c).length)).length = (a.2 c (o + (tc_mv p c).length + 1)).length + (tc_mv (tc_pl c a.1) c).length := List.length_append
  have ee : e = o + (tc_mv p c).length + 1 + (tc_bd c a (o + (tc_mv p c).length)).length := by rw [eb, he]; omega
  refine ⟨?_, h1.1, h1.2.1, ?_, h4.1, h4.2, ?_, ?_⟩
  · have : ((tc_loop fd c a).2 p o).length = (tc_mv p c).length + ((tc_bd c a (o + (tc_mv p c).length)).length + 1 + 1) := by
      show (tc_mv p c ++ _ :: (tc_bd c a (o + (tc_mv p c).length) ++ [_])).length = _
      simp only [List.length_append, List.length_cons, List.length_nil]
    rw [this, ee]
    omega
  · rw [h1.2.2.1, ee]
  · rw [ee]; exact h3.2.1
  · rw [ee]; exact h3.2.2.1
/-- a loop that isn't folded: k rounds from state S k to state S 0 -/
theorem tc_sp_for {c : Nat} {a : tc_Fr} {nb p : Nat} (k : Nat) (Sb : Nat → Nat) (St : Nat → Nat → Fin 16) (Sw : Nat → tc_Out)
    (hb : ∀ j, j ≤ k → Sb j + c < 128) (h0 : St 0 (Sb 0 + c) = 0) (h1 : ∀ j, j < k → St (j + 1) (Sb (j + 1) + c) ≠ 0)
    (hs : ∀ j, j < k → tc_Sp a nb (Sb (j + 1)) c (St (j + 1)) (Sw (j + 1)) (Sb j) (St j) (Sw j)) :
    tc_Sp (tc_loop false c a) (2 + k * (nb + 2)) (Sb k) p (St k) (Sw k) (Sb 0) (St 0) (Sw 0) := by
  intro ops args len W H o hh hl m hw
  obtain ⟨el, q1, q2, q3, q4, q5, q6, q7⟩ := tc_loop_parts rfl rfl rfl hh
  generalize hS : o + (tc_mv p c).length = s at *
  generalize hE : s + 1 + (a.2 c (s + 1)).length + (tc_mv (tc_pl c a.1) c).length = e at *
  rw [el] at hl hw
  have ep : tc_pl p (tc_loop false c a).1 = c := by
    show tc_pl c (a.1 ++ [(3, c, 0)]) = c
    rw [tc_pl_app]
    rfl
  rw [ep] at hw
  have key : ∀ j, j ≤ k → W (m + j * (nb + 2) + 1) s (Sb j + c) 1 (St j) (Sw j) ∧ W (m + j * (nb + 2) + 1) e (Sb j + c) 1 (St j) (Sw j) := by
    intro j
    induction j with
    | zero =>
      intro hj
      rw [Nat.zero_mul]
      refine ⟨H.2.2.2.1 m s _ _ _ _ e (by omega) q2 (hb 0 hj) q3 ?_, H.2.2.2.2.1 m e _ _ _ _ s (by omega) q6 (hb 0 hj) q7 ?_⟩
      · rw [if_pos h0]; exact hw
      · rw [if_pos h0]; exact hw
    | succ j ih =>
      intro hj
      have ih := (ih (by omega)).2
      have body : W (m + (j + 1) * (nb + 2)) (s + 1) (Sb (j + 1) + c) 1 (St (j + 1)) (Sw (j + 1)) := by
        have r1 : W (m + j * (nb + 2) + 1 + 1) (s + 1 + (a.2 c (s + 1)).length) (Sb j + tc_pl c a.1) 1 (St j) (Sw j) := by
          refine tc_mvstep H (hb j (by omega)) q5 (by omega) ?_
          rw [hE]
          exact ih
        have r2 := hs j (by omega) ops args len W H (s + 1) q4 (by omega) _ r1
        rw [show m + (j + 1) * (nb + 2) = m + j * (nb + 2) + 1 + 1 + nb from by rw [Nat.succ_mul]; omega]
        exact r2
      refine ⟨H.2.2.2.1 _ s _ _ _ _ e (by omega) q2 (hb _ hj) q3 ?_, H.2.2.2.2.1 _ e _ _ _ _ s (by omega) q6 (hb _ hj) q7 ?_⟩
      · rw [if_neg (h1 j (by omega))]; exact body
      · rw [if_neg (h1 j (by omega))]; exact body
  rw [show m + (2 + k * (nb + 2)) = m + k * (nb + 2) + 1 + 1 from by omega]
  refine tc_mvstep H (hb k (Nat.le_refl _)) q1 (by omega) ?_
  rw [hS]
  exact (key k (Nat.le_refl _)).1
theorem tc_sp_for' {c : Nat} {a : tc_Fr} {nb p n b b' : Nat} {t t' : Nat → Fin 16} {w w' : tc_Out} (k : Nat) (Sb : Nat → Nat) (St : Nat → Nat → Fin 16) (Sw : Nat → tc_Out)
    (hb : ∀ j, j ≤ k → Sb j + c < 128) (h0 : St 0 (Sb 0 + c) = 0) (h1 : ∀ j, j < k → St (j + 1) (Sb (j + 1) + c) ≠ 0)
    (hs : ∀ j, j < k → tc_Sp a nb (Sb (j + 1)) c (St (j + 1)) (Sw (j + 1)) (Sb j) (St j) (Sw j))
    (e1 : Sb k = b) (e2 : St k = t) (e3 : Sw k = w) (e4 : Sb 0 = b') (e5 : St 0 = t') (e6 : Sw 0 = w') (hn : 2 + k * (nb + 2) ≤ n) :
    tc_Sp (tc_loop false c a) n b p t w b' t' w' := by
  subst e1 e2 e3 e4 e5 e6
  exact tc_sp_le (tc_sp_for k Sb St Sw hb h0 h1 hs) hn
/-- a folded loop -/
theorem tc_sp_fold {c : Nat} {a : tc_Fr} {n b p : Nat} {t t' : Nat → Fin 16} {w : tc_Out} (hc : b + c < 128) (hm : tc_Sm (t (b + c)) a n b c t w b t' w) : tc_Sp (tc_loop true c a) (n + 4) b p t w b t' w := by
  intro ops args len W H o hh hl m hw
  obtain ⟨el, q1, q2, q3, q4, q5, q6, q7⟩ := tc_loop_parts rfl rfl rfl hh
  generalize hS : o + (tc_mv p c).length = s at *
  generalize hE : s + 1 + (a.2 c (s + 1)).length + (tc_mv (tc_pl c a.1) c).length = e at *
  rw [el] at hl hw
  have ep : tc_pl p (tc_loop true c a).1 = c := by
    show tc_pl c (a.1 ++ [(3, c, 0)]) = c
    rw [tc_pl_app]
    rfl
  rw [ep] at hw
  have r0 : W (m + 1) e (b + c) (t (b + c)) t' w := H.2.2.2.2.2.2.2 m e _ _ _ _ (by omega) q6 hc hw
  have r1 : W (m + 1 + 1) (s + 1 + (a.2 c (s + 1)).length) (b + tc_pl c a.1) (t (b + c)) t' w := by
    refine tc_mvstep H hc q5 (by omega) ?_
    rw [hE]
    exact r0
  have r2 := hm ops args len W H (s + 1) q4 (by omega) _ r1
  have r3 : W (m + 1 + 1 + n + 1) s (b + c) 1 t w := H.2.2.2.2.2.2.1 _ s _ _ _ _ (by omega) q2 hc r2
  rw [show m + (n + 4) = m + 1 + 1 + n + 1 + 1 from by omega]
  refine tc_mvstep H hc q1 (by omega) ?_
  rw [hS]
  exact r3
