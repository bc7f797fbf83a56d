section
/-! part 01: pasted rows (kit/rows), then lists of tape code -/
theorem pk_us {f : Nat → Int32} {k : Nat} {x : Int32} : upd f k x k = x := if_pos rfl
theorem pk_un {f : Nat → Int32} {k j : Nat} {x : Int32} (h : j ≠ k) : upd f k x j = f j := if_neg h
theorem pk_sub {a b : Nat} (h : b ≤ a) : nI a - nI b = nI (a - b) := by
  obtain ⟨c, rfl⟩ : ∃ c, a = c + b := ⟨a - b, by omega⟩
  rw [← nI_add, Int32.add_sub_cancel, Nat.add_sub_cancel]
theorem pk_m1 (n : Nat) : nI (n + 1) + (-1) = nI n := by
  rw [← nI_1, Int32.add_assoc, show (1 : Int32) + (-1) = 0 from rfl, Int32.add_zero]
theorem pk_mul (a b : Nat) : nI a * nI b = nI (a * b) := (Int32.ofNat_mul a b).symm
theorem pk_div {a d : Nat} (ha : a < 2 ^ 31) (h0 : 0 < d) (hd : d < 2 ^ 31) : nI a / nI d = nI (a / d) := by
  apply Int32.toInt_inj.mp
  rw [lg_idiv_nonneg (by rw [nI_toInt ha]; omega) (by rw [nI_toInt hd]; omega), nI_toInt ha, nI_toInt hd, nI_toInt (Nat.lt_of_le_of_lt (Nat.div_le_self a d) ha)]
  first | rfl | exact (Int.natCast_ediv _ _).symm
theorem pk_ix (x : Int32) {n : Nat} (hn : n < 2 ^ 31) : x < 0 ∨ nI n ≤ x ∨ ∃ j : Nat, j < n ∧ x = nI j := by
  by_cases h : x < 0
  · exact Or.inl h
  · obtain ⟨j, hj, rfl⟩ := nI_of h
    by_cases h2 : j < n
    · exact Or.inr (Or.inr ⟨j, h2, rfl⟩)
    · exact Or.inr (Or.inl (nI_le (by omega) hj))
theorem pk_le {x y : Int32} {A B : Prop} (a b : Nat) (f : a ≤ b → A) (g : b < a → B) (hx : x = nI a := by rfl) (hy : y = nI b := by rfl) (ha : a < 2 ^ 31 := by omega) (hb : b < 2 ^ 31 := by omega) : (x ≤ y → A) ∧ (¬ x ≤ y → B) := by
  subst hx hy
  rw [nI_leI ha hb]
  exact ⟨f, fun z => g (by omega)⟩
theorem pk_lt {x y : Int32} {A B : Prop} (a b : Nat) (f : a < b → A) (g : b ≤ a → B) (hx : x = nI a := by rfl) (hy : y = nI b := by rfl) (ha : a < 2 ^ 31 := by omega) (hb : b < 2 ^ 31 := by omega) : (x < y → A) ∧ (¬ x < y → B) := by
  subst hx hy
  rw [nI_ltI ha hb]
  exact ⟨f, fun z => g (by omega)⟩
theorem pk_eq {x y : Int32} {A B : Prop} (a b : Nat) (f : a = b → A) (g : a ≠ b → B) (hx : x = nI a := by rfl) (hy : y = nI b := by rfl) (ha : a < 2 ^ 31 := by omega) (hb : b < 2 ^ 31 := by omega) : (x = y → A) ∧ (¬ x = y → B) := by
  subst hx hy
  rw [nI_eq ha hb]
  exact ⟨f, g⟩
theorem pk_in {x : Int32} (n N : Nat) (h : n < N) (hx : x = nI n := by rfl) (hN : N < 2 ^ 31 := by omega) : vp_in x N := by
  subst hx
  exact vp_in_nI h hN
theorem pk_cl {x : Int32} (n : Nat) (hx : x = nI n := by rfl) (h : n < 2 ^ 31 := by omega) : x.toNatClampNeg = n := by
  subst hx
  exact nI_clamp h
theorem pk_tn {n : Nat} (h : n < 2 ^ 32) : (nI n).toBitVec.toNat = n := Nat.mod_eq_of_lt h
theorem pk_and (x : Int32) {m : Int32} (k : Nat) (hm : m.toBitVec.toNat = 2 ^ k - 1) : x &&& m = nI (x.toBitVec.toNat % 2 ^ k) := by
  apply Int32.toBitVec_inj.mp
  apply BitVec.eq_of_toNat_eq
  rw [Int32.toBitVec_and, BitVec.toNat_and, hm, Nat.and_two_pow_sub_one_eq_mod]
  show _ = (BitVec.ofNat 32 _).toNat
  rw [BitVec.toNat_ofNat]
  exact (Nat.mod_eq_of_lt (Nat.lt_of_le_of_lt (Nat.mod_le _ _) x.toBitVec.isLt)).symm
theorem pk_andN {n : Nat} (h : n < 2 ^ 32) {m : Int32} (k : Nat) (hm : m.toBitVec.toNat = 2 ^ k - 1) : nI n &&& m = nI (n % 2 ^ k) := by
  rw [pk_and _ k hm, pk_tn h]
/-- numbers on the tape -/
def tc_I (v : Fin 16) : Int32 := nI v.val
def tc_toV (n : Int32) : Fin 16 := ⟨n.toBitVec.toNat % 16, Nat.mod_lt _ (by decide)⟩
def tc_up (t : Nat → Fin 16) (c : Nat) (v : Fin 16) : Nat → Fin 16 := fun j => if j = c then v else t j
theorem tc_up_s (t : Nat → Fin 16) (c : Nat) (v : Fin 16) : tc_up t c v c = v := if_pos rfl
theorem tc_up_n (t : Nat → Fin 16) {c j : Nat} (v : Fin 16) (h : j ≠ c) : tc_up t c v j = t j := if_neg h
theorem tc_I_lt (v : Fin 16) : v.val < 16 := v.isLt
theorem tc_I0 (v : Fin 16) : tc_I v = 0 ↔ v = 0 := by revert v; decide
theorem tc_I_toV (v : Fin 16) : tc_toV (tc_I v) = v := by revert v; decide
theorem tc_I_1 : tc_I 1 = 1 := by decide
theorem tc_toV_nI (n : Nat) : (tc_toV (nI n)).val = n % 16 := by
  show (nI n).toBitVec.toNat % 16 = n % 16
  show (BitVec.ofNat 32 n).toNat % 16 = n % 16
  rw [BitVec.toNat_ofNat]
  omega
theorem tc_and15 (x : Int32) : x &&& 15 = tc_I (tc_toV x) := pk_and x 4 (by decide)
theorem tc_toV_add (x y : Int32) : tc_toV (x + y) = tc_toV x + tc_toV y := by
  apply Fin.eq_of_val_eq
  show (x + y).toBitVec.toNat % 16 = (x.toBitVec.toNat % 16 + y.toBitVec.toNat % 16) % 16
  rw [Int32.toBitVec_add, BitVec.toNat_add]
  omega
theorem tc_toV_mul (x y : Int32) : tc_toV (x * y) = tc_toV x * tc_toV y := by
  apply Fin.eq_of_val_eq
  show (x * y).toBitVec.toNat % 16 = ((x.toBitVec.toNat % 16) * (y.toBitVec.toNat % 16)) % 16
  rw [Int32.toBitVec_mul, BitVec.toNat_mul]
  generalize x.toBitVec.toNat = a
  generalize y.toBitVec.toNat = b
  rw [← Nat.mul_mod]
  generalize a * b = c
  omega
theorem tc_toV_sub (x y : Int32) : tc_toV (x - y) = tc_toV x - tc_toV y := by
  have h : tc_toV (x - y) + tc_toV y = tc_toV x := by
    rw [← tc_toV_add]
    exact congrArg tc_toV (by grind)
  rw [← h]
  generalize tc_toV (x - y) = a
  generalize tc_toV y = b
  revert a b
  decide
theorem tc_addI (v : Fin 16) (n : Int32) (m : Fin 16) : (tc_I v + n * tc_I m) &&& 15 = tc_I (v + tc_toV n * m) := by
  rw [tc_and15, tc_toV_add, tc_toV_mul, tc_I_toV, tc_I_toV]
theorem tc_updI (t : Nat → Fin 16) (c : Nat) (v : Fin 16) : upd (fun j => tc_I (t j)) c (tc_I v) = fun j => tc_I (tc_up t c v j) := by
  funext j
  unfold upd tc_up
  by_cases h : j = c
  · rw [if_pos h, if_pos h]
  · rw [if_neg h, if_neg h]
theorem tc_nIu (x : Int32) : nI x.toBitVec.toNat = x := by
  apply Int32.toBitVec_inj.mp
  show BitVec.ofNat 32 x.toBitVec.toNat = x.toBitVec
  apply BitVec.eq_of_toNat_eq
  rw [BitVec.toNat_ofNat]
  exact Nat.mod_eq_of_lt x.toBitVec.isLt
/-- tokens as they are put: what, at which cell, how much; and the code that comes of them -/
abbrev tc_Tok : Type := Int32 × Nat × Int32
abbrev tc_Raw : Type := Int32 × Int32
def tc_mv (p c : Nat) : List tc_Raw := if c = p then [] else [(0, nI c - nI p)]
def tc_em : Nat → List tc_Tok → List tc_Raw
  | _, [] => []
  | p, k :: T => tc_mv p k.2.1 ++ (k.1, k.2.2) :: tc_em k.2.1 T
def tc_pl : Nat → List tc_Tok → Nat
  | p, [] => p
  | _, k :: T => tc_pl k.2.1 T
theorem tc_pl_app : ∀ (A : List tc_Tok) (p : Nat) (B : List tc_Tok), tc_pl p (A ++ B) = tc_pl (tc_pl p A) B
  | [], _, _ => rfl
  | k :: A, _, B => tc_pl_app A k.2.1 B
theorem tc_em_app : ∀ (A : List tc_Tok) (p : Nat) (B : List tc_Tok), tc_em p (A ++ B) = tc_em p A ++ tc_em (tc_pl p A) B
  | [], _, _ => rfl
  | k :: A, p, B => by
    show tc_mv p k.2.1 ++ (k.1, k.2.2) :: tc_em k.2.1 (A ++ B) = (tc_mv p k.2.1 ++ (k.1, k.2.2) :: tc_em k.2.1 A) ++ tc_em (tc_pl k.2.1 A) B
    rw [tc_em_app A k.2.1 B, List.append_assoc]
    rfl
theorem tc_mv_len (p c : Nat) : (tc_mv p c).length ≤ 1 := by
  unfold tc_mv
  split
  · exact Nat.zero_le _
  · exact Nat.le_refl _
theorem tc_em_len : ∀ (A : List tc_Tok) (p : Nat), (tc_em p A).length ≤ 2 * A.length
  | [], _ => Nat.le_refl _
  | k :: A, p => by
    show (tc_mv p k.2.1 ++ (k.1, k.2.2) :: tc_em k.2.1 A).length ≤ 2 * (A.length + 1)
    have h1 := tc_mv_len p k.2.1
    have h2 := tc_em_len A k.2.1
    rw [List.length_append, List.length_cons]
    omega
def tc_hold (ops args : Nat → Int32) : Nat → List tc_Raw → Prop
  | _, [] => True
  | o, x :: L => ops o = x.1 ∧ args o = x.2 ∧ tc_hold ops args (o + 1) L
theorem tc_hold_app {ops args : Nat → Int32} : ∀ (A : List tc_Raw) (o : Nat) (B : List tc_Raw), tc_hold ops args o (A ++ B) ↔ (tc_hold ops args o A ∧ tc_hold ops args (o + A.length) B)
  | [], o, B => ⟨fun h => ⟨trivial, h⟩, fun h => h.2⟩
  | x :: A, o, B => by
    show (ops o = x.1 ∧ args o = x.2 ∧ tc_hold ops args (o + 1) (A ++ B)) ↔ ((ops o = x.1 ∧ args o = x.2 ∧ tc_hold ops args (o + 1) A) ∧ tc_hold ops args (o + (A.length + 1)) B)
    rw [tc_hold_app A (o + 1) B, show o + 1 + A.length = o + (A.length + 1) from by omega]
    exact ⟨fun ⟨a, b, c, d⟩ => ⟨⟨a, b, c⟩, d⟩, fun ⟨⟨a, b, c⟩, d⟩ => ⟨a, b, c, d⟩⟩
theorem tc_hold_congr {ops args ops' args' : Nat → Int32} : ∀ (A : List tc_Raw) (o : Nat), (∀ j, o ≤ j → j < o + A.length → ops' j = ops j ∧ args' j = args j) → tc_hold ops args o A → tc_hold ops' args' o A
  | [], _, _, _ => trivial
  | x :: A, o, h, ⟨a, b, c⟩ => by
    have h0 := h o (Nat.le_refl _) (by rw [List.length_cons]; omega)
    exact ⟨h0.1.trans a, h0.2.trans b, tc_hold_congr A (o + 1) (fun j h1 h2 => h j (by omega) (by rw [List.length_cons]; omega)) c⟩
/-- what was said: the kept numbers, and how many -/
abbrev tc_Out : Type := (Nat → Int32) × Nat
def tc_say (w : tc_Out) (x : Int32) : tc_Out := (if w.2 < 40 then upd w.1 w.2 x else w.1, w.2 + 1)
/-- the machine's rules, for whatever is asked of it: budget, place in the code, head, factor, tape, what was said -/
def tc_Mach (ops args : Nat → Int32) (len : Nat) (W : Nat → Nat → Nat → Fin 16 → (Nat → Fin 16) → tc_Out → Prop) : Prop :=
  (∀ m i h tm t w, W m i h tm t w → W (m + 1) i h tm t w) ∧
  (∀ m i h h' tm t w, i < len → ops i = 0 → (nI h + args i) &&& 127 = nI h' → W m (i + 1) h' tm t w → W (m + 1) i h tm t w) ∧
  (∀ m i h tm t w, i < len → ops i = 1 → h < 128 → W m (i + 1) h tm (tc_up t h (t h + tc_toV (args i) * tm)) w → W (m + 1) i h tm t w) ∧
  (∀ m i h tm t w e, i < len → ops i = 2 → h < 128 → args i = nI e → W m (if t h = 0 then e + 1 else i + 1) h tm t w → W (m + 1) i h tm t w) ∧
  (∀ m i h tm t w e, i < len → ops i = 3 → h < 128 → args i = nI e → W m (if t h = 0 then i + 1 else e + 1) h tm t w → W (m + 1) i h tm t w) ∧
  (∀ m i h tm t w, i < len → ops i = 4 → h < 128 → W m (i + 1) h tm t (tc_say w (tc_I (t h))) → W (m + 1) i h tm t w) ∧
  (∀ m i h tm t w, i < len → ops i = 5 → h < 128 → W m (i + 1) h (t h) t w → W (m + 1) i h tm t w) ∧
  (∀ m i h tm t w, i < len → ops i = 6 → h < 128 → W m (i + 1) h 1 t w → W (m + 1) i h tm t w)
end
section
/-! part 02: pieces of code, what matching makes of them, what carrying them out does -/
abbrev tc_Fr : Type := List tc_Tok × (Nat → Nat → List tc_Raw)
def tc_tok (k : tc_Tok) : tc_Fr := ([k], fun p _ => tc_em p [k])
def tc_seq (a b : tc_Fr) : tc_Fr := (a.1 ++ b.1, fun p o => a.2 p o ++ b.2 (tc_pl p a.1) (o + (a.2 p o).length))
/-- the inner list of a loop that stands with its OPEN at s -/
def tc_bd (c : Nat) (a : tc_Fr) (s : Nat) : List tc_Raw := a.2 c (s + 1) ++ tc_mv (tc_pl c a.1) c
def tc_loop (fd : Bool) (c : Nat) (a : tc_Fr) : tc_Fr :=
  ((2, c, 0) :: (a.1 ++ [(3, c, 0)]), fun p o =>
    tc_mv p c ++ ((if fd then 5 else 2), nI (o + (tc_mv p c).length + 1 + (tc_bd c a (o + (tc_mv p c).length)).length)) ::
      (tc_bd c a (o + (tc_mv p c).length) ++ [((if fd then 6 else 3), nI (o + (tc_mv p c).length))]))
/-- from place p over base b, tape t and said w, the piece a ends within n steps over base b', tape t', said w' -/
def tc_Sm (tm : Fin 16) (a : tc_Fr) (n b p : Nat) (t : Nat → Fin 16) (w : tc_Out) (b' : Nat) (t' : Nat → Fin 16) (w' : tc_Out) : Prop :=
  ∀ (ops args : Nat → Int32) (len : Nat) (W : Nat → Nat → Nat → Fin 16 → (Nat → Fin 16) → tc_Out → Prop), tc_Mach ops args len W →
    ∀ o, tc_hold ops args o (a.2 p o) → o + (a.2 p o).length ≤ len →
      ∀ m, W m (o + (a.2 p o).length) (b' + tc_pl p a.1) tm t' w' → W (m + n) o (b + p) tm t w
abbrev tc_Sp (a : tc_Fr) (n b p : Nat) (t : Nat → Fin 16) (w : tc_Out) (b' : Nat) (t' : Nat → Fin 16) (w' : tc_Out) : Prop := tc_Sm 1 a n b p t w b' t' w'
theorem tc_mono {ops args : Nat → Int32} {len : Nat} {W : Nat → Nat → Nat → Fin 16 → (Nat → Fin 16) → tc_Out → Prop} (H : tc_Mach ops args len W) {m i h : Nat} {tm : Fin 16} {t : Nat → Fin 16} {w : tc_Out} (k : Nat) (hw : W m i h tm t w) : W (m + k) i h tm t w := by
  induction k with
  | zero => exact hw
  | succ k ih => exact H.1 _ _ _ _ _ _ ih
theorem tc_sp_le {a : tc_Fr} {n n' b p : Nat} {t : Nat → Fin 16} {w : tc_Out} {b' : Nat} {t' : Nat → Fin 16} {w' : tc_Out} (h : tc_Sp a n b p t w b' t' w') (hn : n ≤ n') : tc_Sp a n' b p t w b' t' w' := by
  intro ops args len W H o h1 h2 m hw
  have := tc_mono H (n' - n) (h ops args len W H o h1 h2 m hw)
  rw [show m + n' = m + n + (n' - n) from by omega]
  exact this
theorem tc_sp_cast {a : tc_Fr} {n b p : Nat} {t : Nat → Fin 16} {w : tc_Out} {b' : Nat} {t' t'' : Nat → Fin 16} {w' : tc_Out} (h : tc_Sp a n b p t w b' t' w') (e : t' = t'') : tc_Sp a n b p t w b' t'' w' := e ▸ h
theorem tc_sp_seq {tm : Fin 16} {a c : tc_Fr} {n1 n2 b p : Nat} {t : Nat → Fin 16} {w : tc_Out} {b1 : Nat} {t1 : Nat → Fin 16} {w1 : tc_Out} {b2 : Nat} {t2 : Nat → Fin 16} {w2 : tc_Out} (h1 : tc_Sm tm a n1 b p t w b1 t1 w1) (h2 : tc_Sm tm c n2 b1 (tc_pl p a.1) t1 w1 b2 t2 w2) : tc_Sm tm (tc_seq a c) (n1 + n2) b p t w b2 t2 w2 := by
  intro ops args len W H o hh hl m hw
  have hA := (tc_hold_app _ _ _).mp hh
  have el : ((tc_seq a c).2 p o).length = (a.2 p o).length + (c.2 (tc_pl p a.1) (o + (a.2 p o).length)).length := List.length_append
  rw [el] at hl hw
  rw [show (tc_seq a c).1 = a.1 ++ c.1 from rfl, tc_pl_app] at hw
  rw [← Nat.add_assoc] at hw hl
  have := h1 ops args len W H o hA.1 (by omega) (m + n2) (h2 ops args len W H _ hA.2 hl m hw)
  rw [show m + (n1 + n2) = m + n2 + n1 from by omega]
  exact this
theorem tc_headmv {b p c : Nat} (hc : b + c < 128) : (nI (b + p) + (nI c - nI p)) &&& 127 = nI (b + c) := by
  rw [show nI (b + p) + (nI c - nI p) = nI (b + c) from by rw [← nI_add, ← nI_add]; grind]
  rw [pk_andN (by omega) 7 (by decide), Nat.mod_eq_of_lt (by omega)]
theorem tc_mvstep {ops args : Nat → Int32} {len : Nat} {W : Nat → Nat → Nat → Fin 16 → (Nat → Fin 16) → tc_Out → Prop} (H : tc_Mach ops args len W) {m o b p c : Nat} {tm : Fin 16} {t : Nat → Fin 16} {w : tc_Out} (hc : b + c < 128) (hh : tc_hold ops args o (tc_mv p c)) (hl : o + (tc_mv p c).length ≤ len) (hw : W m (o + (tc_mv p c).length) (b + c) tm t w) : W (m + 1) o (b + p) tm t w := by
  unfold tc_mv at hh hl hw
  by_cases e : c = p
  · rw [if_pos e] at hw
    rw [e] at hw
    exact H.1 _ _ _ _ _ _ hw
  · rw [if_neg e] at hh hl hw
    refine H.2.1 m o (b + p) (b + c) tm t w (by have : o + 1 ≤ len := hl; omega) hh.1 ?_ hw
    rw [hh.2.1]
    exact tc_headmv hc
theorem tc_sm_add {tm : Fin 16} {c : Nat} {n : Int32} {b p : Nat} {t : Nat → Fin 16} {w : tc_Out} (hc : b + c < 128) : tc_Sm tm (tc_tok (1, c, n)) 2 b p t w b (tc_up t (b + c) (t (b + c) + tc_toV n * tm)) w := by
  intro ops args len W H o hh hl m hw
  have hA := (tc_hold_app (tc_mv p c) o [(1, n)]).mp hh
  have el : ((tc_tok (1, c, n)).2 p o).length = (tc_mv p c).length + 1 := List.length_append
  rw [el, ← Nat.add_assoc] at hl hw
  refine tc_mvstep H (m := m + 1) hc hA.1 (by omega) ?_
  refine H.2.2.1 m _ _ _ _ _ (by omega) hA.2.1 hc ?_
  rw [hA.2.2.1]
  exact hw
theorem tc_sp_add {c : Nat} {n : Int32} {b p : Nat} {t : Nat → Fin 16} {w : tc_Out} (hc : b + c < 128) : tc_Sp (tc_tok (1, c, n)) 2 b p t w b (tc_up t (b + c) (t (b + c) + tc_toV n)) w := by
  have := tc_sm_add (tm := 1) (c := c) (n := n) (b := b) (p := p) (t := t) (w := w) hc
  rw [show tc_toV n * 1 = tc_toV n from Fin.mul_one _] at this
  exact this
theorem tc_sp_walk {c : Nat} {n : Int32} {b b' p : Nat} {t : Nat → Fin 16} {w : tc_Out} (hc : b + c < 128) (hn : (nI (b + c) + n) &&& 127 = nI (b' + c)) : tc_Sp (tc_tok (0, c, n)) 2 b p t w b' t w := by
  intro ops args len W H o hh hl m hw
  have hA := (tc_hold_app (tc_mv p c) o [(0, n)]).mp hh
  have el : ((tc_tok (0, c, n)).2 p o).length = (tc_mv p c).length + 1 := List.length_append
  rw [el, ← Nat.add_assoc] at hl hw
  refine tc_mvstep H (m := m + 1) hc hA.1 (by omega) ?_
  refine H.2.1 m _ _ (b' + c) _ _ _ (by omega) hA.2.1 ?_ hw
  rw [hA.2.2.1]
  exact hn
theorem tc_sp_print {c : Nat} {n : Int32} {b p : Nat} {t : Nat → Fin 16} {w : tc_Out} (hc : b + c < 128) : tc_Sp (tc_tok (4, c, n)) 2 b p t w b t (tc_say w (tc_I (t (b + c)))) := by
  intro ops args len W H o hh hl m hw
  have hA := (tc_hold_app (tc_mv p c) o [(4, n)]).mp hh
  have el : ((tc_tok (4, c, n)).2 p o).length = (tc_mv p c).length + 1 := List.length_append
  rw [el, ← Nat.add_assoc] at hl hw
  refine tc_mvstep H (m := m + 1) hc hA.1 (by omega) ?_
  exact H.2.2.2.2.2.1 m _ _ _ _ _ (by omega) hA.2.1 hc hw
/-- the parts of a loop's code -/
theorem tc_loop_parts {fd : Bool} {c : Nat} {a : tc_Fr} {p o : Nat} {ops args : Nat → Int32} {s B e : Nat} (hs : s = o + (tc_mv p c).length) (hB : B = (a.2 c (s + 1)).length) (he : e = s + 1 + B + (tc_mv (tc_pl c a.1) c).length) (hh : tc_hold ops args o ((tc_loop fd c a).2 p o)) :
    o + ((tc_loop fd c a).2 p o).length = e + 1 ∧ tc_hold ops args o (tc_mv p c) ∧ ops s = (if fd then 5 else 2) ∧ args s = nI e ∧ tc_hold ops args (s + 1) (a.2 c (s + 1)) ∧ tc_hold ops args (s + 1 + B) (tc_mv (tc_pl c a.1) c) ∧ ops e = (if fd then 6 else 3) ∧ args e = nI s := by
  subst hs hB
  have h1 := (tc_hold_app _ _ _).mp hh
  have h2 := h1.2.2.2
  have h3 := (tc_hold_app _ _ _).mp h2
  have h4 := (tc_hold_app (a.2 c (o + (tc_mv p c).length + 1)) _ _).mp h3.1
  have eb : (tc_bd c a (o + (tc_mv p c).length)).length = (a.2 c (o + (tc_mv p c).length + 1)).length + (tc_mv (tc_pl c a.1) c).length := List.length_append
  have ee : e = o + (tc_mv p c).length + 1 + (tc_bd c a (o + (tc_mv p c).length)).length := by rw [eb, he]; omega
  refine ⟨?_, h1.1, h1.2.1, ?_, h4.1, h4.2, ?_, ?_⟩
  · have : ((tc_loop fd c a).2 p o).length = (tc_mv p c).length + ((tc_bd c a (o + (tc_mv p c).length)).length + 1 + 1) := by
      show (tc_mv p c ++ _ :: (tc_bd c a (o + (tc_mv p c).length) ++ [_])).length = _
      simp only [List.length_append, List.length_cons, List.length_nil]
    rw [this, ee]
    omega
  · rw [h1.2.2.1, ee]
  · rw [ee]; exact h3.2.1
  · rw [ee]; exact h3.2.2.1
/-- a loop that isn't folded: k rounds from state S k to state S 0 -/
theorem tc_sp_for {c : Nat} {a : tc_Fr} {nb p : Nat} (k : Nat) (Sb : Nat → Nat) (St : Nat → Nat → Fin 16) (Sw : Nat → tc_Out)
    (hb : ∀ j, j ≤ k → Sb j + c < 128) (h0 : St 0 (Sb 0 + c) = 0) (h1 : ∀ j, j < k → St (j + 1) (Sb (j + 1) + c) ≠ 0)
    (hs : ∀ j, j < k → tc_Sp a nb (Sb (j + 1)) c (St (j + 1)) (Sw (j + 1)) (Sb j) (St j) (Sw j)) :
    tc_Sp (tc_loop false c a) (2 + k * (nb + 2)) (Sb k) p (St k) (Sw k) (Sb 0) (St 0) (Sw 0) := by
  intro ops args len W H o hh hl m hw
  obtain ⟨el, q1, q2, q3, q4, q5, q6, q7⟩ := tc_loop_parts rfl rfl rfl hh
  generalize hS : o + (tc_mv p c).length = s at *
  generalize hE : s + 1 + (a.2 c (s + 1)).length + (tc_mv (tc_pl c a.1) c).length = e at *
  rw [el] at hl hw
  have ep : tc_pl p (tc_loop false c a).1 = c := by
    show tc_pl c (a.1 ++ [(3, c, 0)]) = c
    rw [tc_pl_app]
    rfl
  rw [ep] at hw
  have key : ∀ j, j ≤ k → W (m + j * (nb + 2) + 1) s (Sb j + c) 1 (St j) (Sw j) ∧ W (m + j * (nb + 2) + 1) e (Sb j + c) 1 (St j) (Sw j) := by
    intro j
    induction j with
    | zero =>
      intro hj
      rw [Nat.zero_mul]
      refine ⟨H.2.2.2.1 m s _ _ _ _ e (by omega) q2 (hb 0 hj) q3 ?_, H.2.2.2.2.1 m e _ _ _ _ s (by omega) q6 (hb 0 hj) q7 ?_⟩
      · rw [if_pos h0]; exact hw
      · rw [if_pos h0]; exact hw
    | succ j ih =>
      intro hj
      have ih := (ih (by omega)).2
      have body : W (m + (j + 1) * (nb + 2)) (s + 1) (Sb (j + 1) + c) 1 (St (j + 1)) (Sw (j + 1)) := by
        have r1 : W (m + j * (nb + 2) + 1 + 1) (s + 1 + (a.2 c (s + 1)).length) (Sb j + tc_pl c a.1) 1 (St j) (Sw j) := by
          refine tc_mvstep H (hb j (by omega)) q5 (by omega) ?_
          rw [hE]
          exact ih
        have r2 := hs j (by omega) ops args len W H (s + 1) q4 (by omega) _ r1
        rw [show m + (j + 1) * (nb + 2) = m + j * (nb + 2) + 1 + 1 + nb from by rw [Nat.succ_mul]; omega]
        exact r2
      refine ⟨H.2.2.2.1 _ s _ _ _ _ e (by omega) q2 (hb _ hj) q3 ?_, H.2.2.2.2.1 _ e _ _ _ _ s (by omega) q6 (hb _ hj) q7 ?_⟩
      · rw [if_neg (h1 j (by omega))]; exact body
      · rw [if_neg (h1 j (by omega))]; exact body
  rw [show m + (2 + k * (nb + 2)) = m + k * (nb + 2) + 1 + 1 from by omega]
  refine tc_mvstep H (hb k (Nat.le_refl _)) q1 (by omega) ?_
  rw [hS]
  exact (key k (Nat.le_refl _)).1
theorem tc_sp_for' {c : Nat} {a : tc_Fr} {nb p n b b' : Nat} {t t' : Nat → Fin 16} {w w' : tc_Out} (k : Nat) (Sb : Nat → Nat) (St : Nat → Nat → Fin 16) (Sw : Nat → tc_Out)
    (hb : ∀ j, j ≤ k → Sb j + c < 128) (h0 : St 0 (Sb 0 + c) = 0) (h1 : ∀ j, j < k → St (j + 1) (Sb (j + 1) + c) ≠ 0)
    (hs : ∀ j, j < k → tc_Sp a nb (Sb (j + 1)) c (St (j + 1)) (Sw (j + 1)) (Sb j) (St j) (Sw j))
    (e1 : Sb k = b) (e2 : St k = t) (e3 : Sw k = w) (e4 : Sb 0 = b') (e5 : St 0 = t') (e6 : Sw 0 = w') (hn : 2 + k * (nb + 2) ≤ n) :
    tc_Sp (tc_loop false c a) n b p t w b' t' w' := by
  subst e1 e2 e3 e4 e5 e6
  exact tc_sp_le (tc_sp_for k Sb St Sw hb h0 h1 hs) hn
/-- a folded loop -/
theorem tc_sp_fold {c : Nat} {a : tc_Fr} {n b p : Nat} {t t' : Nat → Fin 16} {w : tc_Out} (hc : b + c < 128) (hm : tc_Sm (t (b + c)) a n b c t w b t' w) : tc_Sp (tc_loop true c a) (n + 4) b p t w b t' w := by
  intro ops args len W H o hh hl m hw
  obtain ⟨el, q1, q2, q3, q4, q5, q6, q7⟩ := tc_loop_parts rfl rfl rfl hh
  generalize hS : o + (tc_mv p c).length = s at *
  generalize hE : s + 1 + (a.2 c (s + 1)).length + (tc_mv (tc_pl c a.1) c).length = e at *
  rw [el] at hl hw
  have ep : tc_pl p (tc_loop true c a).1 = c := by
    show tc_pl c (a.1 ++ [(3, c, 0)]) = c
    rw [tc_pl_app]
    rfl
  rw [ep] at hw
  have r0 : W (m + 1) e (b + c) (t (b + c)) t' w := H.2.2.2.2.2.2.2 m e _ _ _ _ (by omega) q6 hc hw
  have r1 : W (m + 1 + 1) (s + 1 + (a.2 c (s + 1)).length) (b + tc_pl c a.1) (t (b + c)) t' w := by
    refine tc_mvstep H hc q5 (by omega) ?_
    rw [hE]
    exact r0
  have r2 := hm ops args len W H (s + 1) q4 (by omega) _ r1
  have r3 : W (m + 1 + 1 + n + 1) s (b + c) 1 t w := H.2.2.2.2.2.2.1 _ s _ _ _ _ (by omega) q2 hc r2
  rw [show m + (n + 4) = m + 1 + 1 + n + 1 + 1 from by omega]
  refine tc_mvstep H hc q1 (by omega) ?_
  rw [hS]
  exact r3
end
section
/-! part 03: the loops that only add -/
def tc_f (j : Nat) : Fin 16 := ⟨j % 16, Nat.mod_lt _ (by decide)⟩
theorem tc_f0 : tc_f 0 = 0 := rfl
theorem tc_fv (v : Fin 16) : tc_f v.val = v := Fin.eq_of_val_eq (Nat.mod_eq_of_lt v.isLt)
theorem tc_fn {j : Nat} (h : j < 15) : tc_f (j + 1) ≠ 0 := by
  intro e
  have : (j + 1) % 16 = 0 := congrArg Fin.val e
  omega
theorem tc_fs (j : Nat) : tc_f (j + 1) = tc_f j + 1 := by
  apply Fin.eq_of_val_eq
  show (j + 1) % 16 = (j % 16 + 1) % 16
  omega
theorem tc_m1 : tc_toV (-1) = 15 := by decide
theorem tc_p1 : tc_toV 1 = 1 := by decide
theorem tc_r1 (v : Fin 16) : v + 15 * v = 0 := by revert v; decide
theorem tc_r2 (v : Fin 16) : v + 1 + 15 = v := by revert v; decide
theorem tc_r3 (x n v f : Fin 16) : x + n * (v - (f + 1)) + n = x + n * (v - f) := by grind
theorem tc_r4 (x v f : Fin 16) : x + (v - (f + 1)) + 1 = x + (v - f) := by grind
theorem tc_r5 (v : Fin 16) : v - v = 0 := by revert v; decide
theorem tc_r6 (x : Fin 16) : x + 0 = x := by revert x; decide
theorem tc_r7 (n : Fin 16) : n * 0 = 0 := by revert n; decide
theorem tc_r8 (n : Fin 16) : n - 0 = n := by revert n; decide
theorem tc_r9 (n : Fin 16) : 1 * n = n := by revert n; decide
def tc_clear (lv : Bool) (c : Nat) : tc_Fr := tc_loop lv c (tc_tok (1, c, -1))
def tc_pour (lv : Bool) (c d : Nat) (n : Int32) : tc_Fr := tc_loop lv c (tc_seq (tc_tok (1, c, -1)) (tc_tok (1, d, n)))
def tc_pour2 (lv : Bool) (c d e : Nat) : tc_Fr := tc_loop lv c (tc_seq (tc_tok (1, c, -1)) (tc_seq (tc_tok (1, d, 1)) (tc_tok (1, e, 1))))
theorem tc_sp_clear {lv : Bool} {c b p : Nat} {t : Nat → Fin 16} {w : tc_Out} (hc : b + c < 128) : tc_Sp (tc_clear lv c) 64 b p t w b (tc_up t (b + c) 0) w := by
  cases lv with
  | false =>
    have hv := (t (b + c)).isLt
    refine tc_sp_for' (nb := 2) (t (b + c)).val (fun _ => b) (fun j => tc_up t (b + c) (tc_f j)) (fun _ => w) (fun _ _ => hc) ?_ ?_ ?_ rfl ?_ rfl rfl ?_ rfl ?_
    · exact tc_up_s _ _ _
    · intro j hj
      show tc_up t (b + c) (tc_f (j + 1)) (b + c) ≠ 0
      rw [tc_up_s]
      exact tc_fn (by omega)
    · intro j hj
      refine tc_sp_cast (tc_sp_add hc) ?_
      funext i
      simp only [tc_up, tc_fs, tc_m1]
      grind
    · funext i
      simp only [tc_up, tc_fv]
      grind
    · rfl
    · omega
  | true =>
    refine tc_sp_le (n := 2 + 4) (tc_sp_cast (tc_sp_fold hc (tc_sm_add hc)) ?_) (by omega)
    rw [tc_m1, tc_r1]
theorem tc_sp_pour {lv : Bool} {c d b p : Nat} {n : Int32} {t : Nat → Fin 16} {w : tc_Out} (hc : b + c < 128) (hd : b + d < 128) (ne : c ≠ d) : tc_Sp (tc_pour lv c d n) 100 b p t w b (tc_up (tc_up t (b + c) 0) (b + d) (t (b + d) + tc_toV n * t (b + c))) w := by
  cases lv with
  | false =>
    have hv := (t (b + c)).isLt
    refine tc_sp_for' (nb := 2 + 2) (t (b + c)).val (fun _ => b) (fun j => tc_up (tc_up t (b + c) (tc_f j)) (b + d) (t (b + d) + tc_toV n * (t (b + c) - tc_f j))) (fun _ => w) (fun _ _ => hc) ?_ ?_ ?_ rfl ?_ rfl rfl ?_ rfl ?_
    · simp only [tc_up, tc_f0]
      grind
    · intro j hj
      have := tc_fn (j := j) (by omega)
      simp only [tc_up]
      grind
    · intro j hj
      refine tc_sp_cast (tc_sp_seq (tc_sp_add hc) (tc_sp_add hd)) ?_
      funext i
      simp only [tc_up, tc_fs, tc_m1]
      grind
    · funext i
      simp only [tc_up, tc_fv]
      grind
    · funext i
      simp only [tc_up, tc_f0]
      grind
    · omega
  | true =>
    refine tc_sp_le (n := 2 + 2 + 4) (tc_sp_cast (tc_sp_fold hc (tc_sp_seq (tc_sm_add hc) (tc_sm_add hd))) ?_) (by omega)
    funext i
    simp only [tc_up, tc_m1]
    grind
theorem tc_sp_pour2 {lv : Bool} {c d e b p : Nat} {t : Nat → Fin 16} {w : tc_Out} (hc : b + c < 128) (hd : b + d < 128) (he : b + e < 128) (n1 : c ≠ d) (n2 : c ≠ e) (n3 : d ≠ e) : tc_Sp (tc_pour2 lv c d e) 130 b p t w b (tc_up (tc_up (tc_up t (b + c) 0) (b + d) (t (b + d) + t (b + c))) (b + e) (t (b + e) + t (b + c))) w := by
  cases lv with
  | false =>
    have hv := (t (b + c)).isLt
    refine tc_sp_for' (nb := 2 + (2 + 2)) (t (b + c)).val (fun _ => b) (fun j => tc_up (tc_up (tc_up t (b + c) (tc_f j)) (b + d) (t (b + d) + (t (b + c) - tc_f j))) (b + e) (t (b + e) + (t (b + c) - tc_f j))) (fun _ => w) (fun _ _ => hc) ?_ ?_ ?_ rfl ?_ rfl rfl ?_ rfl ?_
    · simp only [tc_up, tc_f0]
      grind
    · intro j hj
      have := tc_fn (j := j) (by omega)
      simp only [tc_up]
      grind
    · intro j hj
      refine tc_sp_cast (tc_sp_seq (tc_sp_add hc) (tc_sp_seq (tc_sp_add hd) (tc_sp_add he))) ?_
      funext i
      simp only [tc_up, tc_fs, tc_m1, tc_p1]
      grind
    · funext i
      simp only [tc_up, tc_fv]
      grind
    · funext i
      simp only [tc_up, tc_f0]
      grind
    · omega
  | true =>
    refine tc_sp_le (n := 2 + (2 + 2) + 4) (tc_sp_cast (tc_sp_fold hc (tc_sp_seq (tc_sm_add hc) (tc_sp_seq (tc_sm_add hd) (tc_sm_add he)))) ?_) (by omega)
    funext i
    simp only [tc_up, tc_m1, tc_p1]
    grind
def tc_addTo (lv : Bool) (c d : Nat) : tc_Fr := tc_seq (tc_pour2 lv c d 6) (tc_pour lv 6 c 1)
/-- what addTo does to a tape whose spare cell is 0 -/
theorem tc_sp_addTo {lv : Bool} {c d p : Nat} {t : Nat → Fin 16} {w : tc_Out} (hc : c < 128) (hd : d < 128) (n1 : c ≠ d) (n2 : c ≠ 6) (n3 : d ≠ 6) (z : t 6 = 0) : tc_Sp (tc_addTo lv c d) 230 0 p t w 0 (tc_up t d (t d + t c)) w := by
  refine tc_sp_cast (tc_sp_seq (tc_sp_pour2 (by omega) (by omega) (by omega) n1 n2 n3) (tc_sp_pour (by omega) (by omega) (Ne.symm n2))) ?_
  funext i
  simp only [tc_up, tc_p1, Nat.zero_add]
  grind
end
section
/-! part 04: the simple kinds -/
/-- cells for passing use are 0 -/
def tc_Cl (t : Nat → Fin 16) : Prop := (∀ j, 6 ≤ j → j ≤ 12 → t j = 0) ∧ (∀ j, 18 ≤ j → j < 84 → j % 4 ≠ 1 → t j = 0)
theorem tc_sp_if {c : Nat} {a : tc_Fr} {nb b p n : Nat} {t t' : Nat → Fin 16} {w w' : tc_Out} (hc : b + c < 128) (h : t (b + c) ≠ 0 → tc_Sp a nb b c t w b t' w') (h1 : t (b + c) ≠ 0 → t' (b + c) = 0) (h0 : t (b + c) = 0 → t = t' ∧ w = w') (hn : nb + 4 ≤ n) : tc_Sp (tc_loop false c a) n b p t w b t' w' := by
  by_cases z : t (b + c) = 0
  · obtain ⟨et, ew⟩ := h0 z
    subst et ew
    exact tc_sp_for' (nb := nb) 0 (fun _ => b) (fun _ => t) (fun _ => w) (fun _ _ => hc) z (fun j hj => absurd hj (Nat.not_lt_zero j)) (fun j hj => absurd hj (Nat.not_lt_zero j)) rfl rfl rfl rfl rfl rfl (by omega)
  · refine tc_sp_for' (nb := nb) 1 (fun _ => b) (fun j => if j = 0 then t' else t) (fun j => if j = 0 then w' else w) (fun _ _ => hc) (h1 z) ?_ ?_ rfl rfl rfl rfl rfl rfl (by omega)
    · intro j hj
      exact z
    · intro j hj
      have : j = 0 := by omega
      subst this
      exact h z
theorem tc_sp_set {lv : Bool} {x p : Nat} {y : Int32} {t : Nat → Fin 16} {w : tc_Out} (hx : x < 6) : tc_Sp (tc_seq (tc_clear lv x) (tc_tok (1, x, y))) 1000 0 p t w 0 (tc_up t x (tc_toV y)) w := by
  refine tc_sp_le (tc_sp_cast (tc_sp_seq (tc_sp_clear (by omega)) (tc_sp_add (by omega))) ?_) (by omega)
  funext i
  simp only [tc_up, Nat.zero_add]
  grind
theorem tc_sp_copy {lv : Bool} {x y p : Nat} {t : Nat → Fin 16} {w : tc_Out} (C : tc_Cl t) (hx : x < 6) (hy : y < 6) : tc_Sp (tc_seq (tc_addTo lv y 7) (tc_seq (tc_clear lv x) (tc_pour lv 7 x 1))) 1000 0 p t w 0 (tc_up t x (t y)) w := by
  have z6 := C.1 6 (by omega) (by omega)
  have z7 := C.1 7 (by omega) (by omega)
  refine tc_sp_le (tc_sp_cast (tc_sp_seq (tc_sp_addTo (by omega) (by omega) (by omega) (by omega) (by omega) z6) (tc_sp_seq (tc_sp_clear (by omega)) (tc_sp_pour (by omega) (by omega) (by omega)))) ?_) (by omega)
  funext i
  simp only [tc_up, Nat.zero_add, tc_p1]
  grind
theorem tc_sp_plus {lv : Bool} {x y p : Nat} {n : Int32} {t : Nat → Fin 16} {w : tc_Out} (C : tc_Cl t) (hx : x < 6) (hy : y < 6) : tc_Sp (tc_seq (tc_addTo lv y 7) (tc_pour lv 7 x n)) 1000 0 p t w 0 (tc_up t x (t x + tc_toV n * t y)) w := by
  have z6 := C.1 6 (by omega) (by omega)
  have z7 := C.1 7 (by omega) (by omega)
  refine tc_sp_le (tc_sp_cast (tc_sp_seq (tc_sp_addTo (by omega) (by omega) (by omega) (by omega) (by omega) z6) (tc_sp_pour (by omega) (by omega) (by omega))) ?_) (by omega)
  funext i
  simp only [tc_up, Nat.zero_add]
  grind
def tc_product (lv : Bool) (x y z : Nat) : tc_Fr :=
  tc_seq (tc_addTo lv y 7) (tc_seq (tc_addTo lv z 8) (tc_seq (tc_clear lv x) (tc_seq (tc_loop false 7 (tc_seq (tc_tok (1, 7, -1)) (tc_addTo lv 8 x))) (tc_clear lv 8))))
theorem tc_sp_product {lv : Bool} {x y z p : Nat} {t : Nat → Fin 16} {w : tc_Out} (C : tc_Cl t) (hx : x < 6) (hy : y < 6) (hz : z < 6) : tc_Sp (tc_product lv x y z) 10000 0 p t w 0 (tc_up t x (t y * t z)) w := by
  have z6 := C.1 6 (by omega) (by omega)
  have z7 := C.1 7 (by omega) (by omega)
  have z8 := C.1 8 (by omega) (by omega)
  have hv := (t y).isLt
  refine tc_sp_le (tc_sp_cast (tc_sp_seq (tc_sp_addTo (by omega) (by omega) (by omega) (by omega) (by omega) z6) (tc_sp_seq (tc_sp_addTo (by omega) (by omega) (by omega) (by omega) (by omega) ?_) (tc_sp_seq (tc_sp_clear (by omega)) (tc_sp_seq (n1 := 4000) (t1 := tc_up (tc_up t 8 (t z)) x (t y * t z)) (b1 := 0) (w1 := w) ?_ (tc_sp_clear (by omega)))))) ?_) (by omega)
  · simp only [tc_up]
    grind
  · refine tc_sp_for' (nb := 2 + 230) (t y).val (fun _ => 0) (fun j => tc_up (tc_up (tc_up t 8 (t z)) x ((t y - tc_f j) * t z)) 7 (tc_f j)) (fun _ => w) (by omega) ?_ ?_ ?_ rfl ?_ rfl rfl ?_ rfl (by omega)
    · simp only [tc_up, tc_f0]
      grind
    · intro j hj
      have := tc_fn (j := j) (by omega)
      simp only [tc_up]
      grind
    · intro j hj
      refine tc_sp_cast (tc_sp_seq (tc_sp_add (by omega)) (tc_sp_addTo (by omega) (by omega) (by omega) (by omega) (by omega) ?_)) ?_
      · simp only [tc_up]
        grind
      · funext i
        simp only [tc_up, tc_fs, tc_m1]
        grind
    · funext i
      simp only [tc_up, tc_fv, Nat.zero_add]
      grind
    · funext i
      simp only [tc_up, tc_f0, Nat.zero_add]
      grind
  · funext i
    simp only [tc_up, Nat.zero_add]
    grind
def tc_less (lv : Bool) (x y z : Nat) : tc_Fr :=
  tc_seq (tc_addTo lv y 7) (tc_seq (tc_addTo lv z 8) (tc_seq (tc_loop false 7 (tc_seq (tc_tok (1, 7, -1)) (tc_seq (tc_addTo lv 8 10) (tc_loop false 10 (tc_seq (tc_tok (1, 8, -1)) (tc_clear lv 10)))))) (tc_seq (tc_clear lv x) (tc_loop false 8 (tc_seq (tc_tok (1, x, 1)) (tc_clear lv 8))))))
theorem tc_fp {a : Nat} (h : a < 16) : tc_f (a - 1) = if tc_f a = 0 then tc_f a else tc_f a + 15 := by
  cases a with
  | zero => rfl
  | succ a =>
    rw [if_neg (tc_fn (by omega)), tc_fs, tc_r2]
    rfl
theorem tc_less_v (a b : Fin 16) : (if tc_f (b.val - a.val) = 0 then (0 : Fin 16) else 1) = if a < b then 1 else 0 := by revert a b; decide
theorem tc_sp_less {lv : Bool} {x y z p : Nat} {t : Nat → Fin 16} {w : tc_Out} (C : tc_Cl t) (hx : x < 6) (hy : y < 6) (hz : z < 6) : tc_Sp (tc_less lv x y z) 10000 0 p t w 0 (tc_up t x (if t y < t z then 1 else 0)) w := by
  have z6 := C.1 6 (by omega) (by omega)
  have z7 := C.1 7 (by omega) (by omega)
  have z8 := C.1 8 (by omega) (by omega)
  have z10 := C.1 10 (by omega) (by omega)
  have hv := (t y).isLt
  have hv2 := (t z).isLt
  rw [← tc_less_v]
  refine tc_sp_le (tc_sp_seq (tc_sp_addTo (by omega) (by omega) (by omega) (by omega) (by omega) z6) (tc_sp_seq (tc_sp_addTo (by omega) (by omega) (by omega) (by omega) (by omega) ?_) (tc_sp_seq (n1 := 6000) (t1 := tc_up t 8 (tc_f ((t z).val - (t y).val))) (b1 := 0) (w1 := w) ?_ (tc_sp_seq (tc_sp_clear (by omega)) (tc_sp_if (nb := 2 + 64) (n := 100) (by omega) ?_ ?_ ?_ (by omega)))))) (by omega)
  · simp only [tc_up]
    grind
  · refine tc_sp_for' (nb := 2 + (230 + 100)) (t y).val (fun _ => 0) (fun j => tc_up (tc_up t 8 (tc_f ((t z).val - ((t y).val - j)))) 7 (tc_f j)) (fun _ => w) (by omega) ?_ ?_ ?_ rfl ?_ rfl rfl ?_ rfl (by omega)
    · simp only [tc_up, tc_f0]
      grind
    · intro j hj
      have := tc_fn (j := j) (by omega)
      simp only [tc_up]
      grind
    · intro j hj
      have hf := tc_fp (a := (t z).val - ((t y).val - (j + 1))) (by omega)
      rw [show (t z).val - ((t y).val - (j + 1)) - 1 = (t z).val - ((t y).val - j) from by omega] at hf
      show tc_Sp _ _ _ _ (tc_up (tc_up t 8 (tc_f ((t z).val - ((t y).val - (j + 1))))) 7 (tc_f (j + 1))) w 0 (tc_up (tc_up t 8 (tc_f ((t z).val - ((t y).val - j)))) 7 (tc_f j)) w
      rw [hf]
      generalize tc_f ((t z).val - ((t y).val - (j + 1))) = r
      refine tc_sp_seq (tc_sp_add (by omega)) (tc_sp_seq (tc_sp_addTo (by omega) (by omega) (by omega) (by omega) (by omega) ?_) (tc_sp_if (nb := 2 + 64) (by omega) (fun h => tc_sp_cast (tc_sp_seq (tc_sp_add (by omega)) (tc_sp_clear (by omega))) ?_) ?_ ?_ (by omega)))
      · simp only [tc_up]
        grind
      · simp only [tc_up, Nat.zero_add] at h
        funext i
        simp only [tc_up, tc_fs, tc_m1, Nat.zero_add]
        grind
      · intro _
        simp only [tc_up]
        grind
      · intro h
        refine ⟨?_, rfl⟩
        simp only [tc_up, Nat.zero_add] at h
        funext i
        simp only [tc_up, tc_fs, tc_m1, Nat.zero_add]
        grind
    · funext i
      simp only [tc_up, tc_fv, Nat.zero_add, Nat.sub_self, Nat.sub_zero]
      grind
    · funext i
      simp only [tc_up, tc_f0, Nat.zero_add, Nat.sub_zero]
      grind
  · intro h
    refine tc_sp_cast (tc_sp_seq (tc_sp_add (by omega)) (tc_sp_clear (by omega))) ?_
    generalize tc_f ((t z).val - (t y).val) = r at *
    simp only [tc_up, Nat.zero_add] at h
    funext i
    simp only [tc_up, tc_p1, Nat.zero_add]
    grind
  · intro _
    simp only [tc_up]
    grind
  · intro h
    refine ⟨?_, rfl⟩
    generalize tc_f ((t z).val - (t y).val) = r at *
    simp only [tc_up, Nat.zero_add] at h
    funext i
    simp only [tc_up, Nat.zero_add]
    grind
def tc_equal (lv : Bool) (x y z : Nat) : tc_Fr :=
  tc_seq (tc_addTo lv y 7) (tc_seq (tc_addTo lv z 8) (tc_seq (tc_pour lv 8 7 (-1)) (tc_seq (tc_clear lv x) (tc_seq (tc_tok (1, x, 1)) (tc_loop false 7 (tc_seq (tc_tok (1, x, -1)) (tc_clear lv 7)))))))
theorem tc_eq_v (a b : Fin 16) : a + 15 * b = 0 ↔ a = b := by revert a b; decide
theorem tc_sp_equal {lv : Bool} {x y z p : Nat} {t : Nat → Fin 16} {w : tc_Out} (C : tc_Cl t) (hx : x < 6) (hy : y < 6) (hz : z < 6) : tc_Sp (tc_equal lv x y z) 10000 0 p t w 0 (tc_up t x (if t y = t z then 1 else 0)) w := by
  have z6 := C.1 6 (by omega) (by omega)
  have z7 := C.1 7 (by omega) (by omega)
  have z8 := C.1 8 (by omega) (by omega)
  have e := tc_eq_v (t y) (t z)
  refine tc_sp_le (tc_sp_seq (tc_sp_addTo (by omega) (by omega) (by omega) (by omega) (by omega) z6) (tc_sp_seq (tc_sp_addTo (by omega) (by omega) (by omega) (by omega) (by omega) ?_) (tc_sp_seq (tc_sp_pour (by omega) (by omega) (by omega)) (tc_sp_seq (t1 := tc_up (tc_up t 7 (t y + 15 * t z)) x 0) (b1 := 0) (w1 := w) (tc_sp_cast (tc_sp_clear (by omega)) ?_) (tc_sp_seq (tc_sp_add (by omega)) (tc_sp_if (nb := 2 + 64) (n := 100) (by omega) (fun h => tc_sp_cast (tc_sp_seq (tc_sp_add (by omega)) (tc_sp_clear (by omega))) ?_) ?_ ?_ (by omega))))))) (by omega)
  · simp only [tc_up]
    grind
  · funext i
    simp only [tc_up, tc_m1, Nat.zero_add]
    grind
  · simp only [tc_up, Nat.zero_add] at h
    funext i
    simp only [tc_up, tc_m1, tc_p1, Nat.zero_add]
    grind
  · intro _
    simp only [tc_up]
    grind
  · intro h
    refine ⟨?_, rfl⟩
    simp only [tc_up, Nat.zero_add] at h
    funext i
    simp only [tc_up, tc_p1, Nat.zero_add]
    grind
end
section
/-! part 05: quotient, fetch, store -/
def tc_quot (lv : Bool) (x y z : Nat) : tc_Fr :=
  tc_seq (tc_addTo lv y 7) (tc_seq (tc_addTo lv z 8) (tc_seq (tc_addTo lv 8 9) (tc_seq
    (tc_loop false 7 (tc_seq (tc_tok (1, 7, -1)) (tc_seq (tc_tok (1, 9, -1)) (tc_seq (tc_tok (1, 10, 1)) (tc_seq (tc_addTo lv 9 11)
      (tc_seq (tc_loop false 11 (tc_seq (tc_tok (1, 10, -1)) (tc_clear lv 11)))
        (tc_loop false 10 (tc_seq (tc_tok (1, 10, -1)) (tc_seq (tc_tok (1, 12, 1)) (tc_addTo lv 8 9)))))))))) 
    (tc_seq (tc_clear lv 8) (tc_seq (tc_clear lv 9) (tc_seq (tc_clear lv x) (tc_pour lv 12 x 1)))))))
def tc_qc (z : Fin 16) (i : Nat) : Fin 16 := z - tc_f (i % z.val)
def tc_qr (z : Fin 16) (i : Nat) : Fin 16 := tc_f (i / z.val)
theorem tc_q_step : ∀ (z : Fin 16) (i : Fin 15), (tc_qc z i.val + 15 = 0 → tc_qc z (i.val + 1) = z ∧ tc_qr z (i.val + 1) = tc_qr z i.val + 1) ∧ (tc_qc z i.val + 15 ≠ 0 → tc_qc z (i.val + 1) = tc_qc z i.val + 15 ∧ tc_qr z (i.val + 1) = tc_qr z i.val) := by decide
theorem tc_q_0 : ∀ z : Fin 16, tc_qc z 0 = z ∧ tc_qr z 0 = 0 := by decide
theorem tc_q_end : ∀ y z : Fin 16, tc_qr z y.val = y / z := by decide
theorem tc_sp_quot {lv : Bool} {x y z p : Nat} {t : Nat → Fin 16} {w : tc_Out} (C : tc_Cl t) (hx : x < 6) (hy : y < 6) (hz : z < 6) : tc_Sp (tc_quot lv x y z) 20000 0 p t w 0 (tc_up t x (t y / t z)) w := by
  have z6 := C.1 6 (by omega) (by omega)
  have z7 := C.1 7 (by omega) (by omega)
  have z8 := C.1 8 (by omega) (by omega)
  have z9 := C.1 9 (by omega) (by omega)
  have z10 := C.1 10 (by omega) (by omega)
  have z11 := C.1 11 (by omega) (by omega)
  have z12 := C.1 12 (by omega) (by omega)
  have hv := (t y).isLt
  obtain ⟨q01, q02⟩ := tc_q_0 (t z)
  have qe := tc_q_end (t y) (t z)
  refine tc_sp_le (tc_sp_cast (tc_sp_seq (tc_sp_addTo (by omega) (by omega) (by omega) (by omega) (by omega) z6) (tc_sp_seq (tc_sp_addTo (by omega) (by omega) (by omega) (by omega) (by omega) ?_) (tc_sp_seq (tc_sp_addTo (by omega) (by omega) (by omega) (by omega) (by omega) ?_) (tc_sp_seq (n1 := 15000) (t1 := tc_up (tc_up (tc_up t 8 (t z)) 9 (tc_qc (t z) (t y).val)) 12 (tc_qr (t z) (t y).val)) (b1 := 0) (w1 := w) ?_ (tc_sp_seq (tc_sp_clear (by omega)) (tc_sp_seq (tc_sp_clear (by omega)) (tc_sp_seq (tc_sp_clear (by omega)) (tc_sp_pour (by omega) (by omega) (by omega))))))))) ?_) (by omega)
  · simp only [tc_up]
    grind
  · simp only [tc_up]
    grind
  · refine tc_sp_for' (nb := 2 + (2 + (2 + (230 + (100 + 300))))) (t y).val (fun _ => 0) (fun j => tc_up (tc_up (tc_up (tc_up t 8 (t z)) 9 (tc_qc (t z) ((t y).val - j))) 12 (tc_qr (t z) ((t y).val - j))) 7 (tc_f j)) (fun _ => w) (by omega) ?_ ?_ ?_ rfl ?_ rfl rfl ?_ rfl (by omega)
    · simp only [tc_up, tc_f0]
      grind
    · intro j hj
      have := tc_fn (j := j) (by omega)
      simp only [tc_up]
      grind
    · intro j hj
      obtain ⟨s1, s2⟩ := tc_q_step (t z) ⟨(t y).val - (j + 1), by omega⟩
      dsimp only at s1 s2
      rw [show (t y).val - (j + 1) + 1 = (t y).val - j from by omega] at s1 s2
      show tc_Sp _ _ _ _ (tc_up (tc_up (tc_up (tc_up t 8 (t z)) 9 (tc_qc (t z) ((t y).val - (j + 1)))) 12 (tc_qr (t z) ((t y).val - (j + 1)))) 7 (tc_f (j + 1))) w 0 (tc_up (tc_up (tc_up (tc_up t 8 (t z)) 9 (tc_qc (t z) ((t y).val - j))) 12 (tc_qr (t z) ((t y).val - j))) 7 (tc_f j)) w
      generalize tc_qc (t z) ((t y).val - (j + 1)) = qc at *
      generalize tc_qr (t z) ((t y).val - (j + 1)) = qr at *
      generalize tc_qc (t z) ((t y).val - j) = qc' at *
      generalize tc_qr (t z) ((t y).val - j) = qr' at *
      refine tc_sp_seq (tc_sp_add (by omega)) (tc_sp_seq (tc_sp_add (by omega)) (tc_sp_seq (tc_sp_add (by omega)) (tc_sp_seq (tc_sp_addTo (by omega) (by omega) (by omega) (by omega) (by omega) ?_)
        (tc_sp_seq (t1 := tc_up (tc_up (tc_up (tc_up (tc_up t 8 (t z)) 9 (qc + 15)) 12 qr) 7 (tc_f j)) 10 (if qc + 15 = 0 then 1 else 0)) (b1 := 0) (w1 := w) (tc_sp_if (nb := 2 + 64) (by omega) (fun h => tc_sp_cast (tc_sp_seq (tc_sp_add (by omega)) (tc_sp_clear (by omega))) ?_) ?_ ?_ (by omega))
          (tc_sp_if (nb := 2 + (2 + 230)) (by omega) (fun h => tc_sp_cast (tc_sp_seq (tc_sp_add (by omega)) (tc_sp_seq (tc_sp_add (by omega)) (tc_sp_addTo (by omega) (by omega) (by omega) (by omega) (by omega) ?_))) ?_) ?_ ?_ (by omega))))))
      · simp only [tc_up]
        grind
      · simp only [tc_up, Nat.zero_add, tc_m1, tc_p1] at h
        funext i
        simp only [tc_up, tc_fs, tc_m1, tc_p1, Nat.zero_add]
        grind
      · intro _
        simp only [tc_up]
        grind
      · intro h
        refine ⟨?_, rfl⟩
        simp only [tc_up, Nat.zero_add, tc_m1, tc_p1] at h
        funext i
        simp only [tc_up, tc_fs, tc_m1, tc_p1, Nat.zero_add]
        grind
      · simp only [tc_up]
        grind
      · simp only [tc_up, Nat.zero_add, tc_m1, tc_p1] at h
        have hq : qc + 15 = 0 := by grind
        obtain ⟨e1, e2⟩ := s1 hq
        subst e1 e2
        funext i
        simp only [tc_up, tc_m1, tc_p1, Nat.zero_add]
        grind
      · intro _
        simp only [tc_up]
        grind
      · intro h
        refine ⟨?_, rfl⟩
        simp only [tc_up, Nat.zero_add, tc_m1, tc_p1] at h
        have hq : qc + 15 ≠ 0 := by grind
        obtain ⟨e1, e2⟩ := s2 hq
        subst e1 e2
        funext i
        simp only [tc_up, Nat.zero_add]
        grind
    · funext i
      simp only [tc_up, tc_fv, Nat.zero_add, Nat.sub_self, q01, q02]
      grind
    · funext i
      simp only [tc_up, tc_f0, Nat.zero_add, Nat.sub_zero]
      grind
  · funext i
    simp only [tc_up, tc_p1, Nat.zero_add, qe]
    grind
def tc_walkOut (lv : Bool) : tc_Fr := tc_loop false 18 (tc_seq (tc_tok (1, 18, -1)) (tc_seq (tc_pour lv 18 22 1) (tc_seq (tc_pour lv 19 23 1) (tc_seq (tc_tok (1, 24, 1)) (tc_tok (0, 18, 4))))))
def tc_walkBack (lv : Bool) : tc_Fr := tc_loop false 20 (tc_seq (tc_tok (1, 20, -1)) (tc_seq (tc_pour lv 19 15 1) (tc_tok (0, 20, -4))))
def tc_lift (lv : Bool) : tc_Fr := tc_seq (tc_pour2 lv 17 18 19) (tc_pour lv 18 17 1)
def tc_om (t : Nat → Fin 16) (v : Fin 16) (k j : Nat) : Nat → Fin 16 := fun i => if i = 18 + 4 * j then tc_f k else if i = 19 + 4 * j then v else if 20 < i ∧ i ≤ 20 + 4 * j ∧ i % 4 = 0 then 1 else t i
def tc_bk (t : Nat → Fin 16) (v : Fin 16) (j : Nat) : Nat → Fin 16 := fun i => if i = 19 + 4 * j then v else if 20 < i ∧ i ≤ 20 + 4 * j ∧ i % 4 = 0 then 1 else t i
theorem tc_sp_walkOut {lv : Bool} {p : Nat} {t : Nat → Fin 16} {w : tc_Out} {v : Fin 16} {I : Nat} (C : tc_Cl t) (hI : I < 16) : tc_Sp (tc_walkOut lv) 5000 0 p (tc_om t v I 0) w (4 * I) (tc_om t v 0 I) w := by
  refine tc_sp_for' (nb := 2 + (100 + (100 + (2 + 2)))) I (fun k => 4 * (I - k)) (fun k => tc_om t v k (I - k)) (fun _ => w) (by omega) ?_ ?_ ?_ ?_ ?_ rfl ?_ ?_ rfl (by omega)
  · simp only [tc_om, tc_f0]
    grind
  · intro j hj
    have := tc_fn (j := j) (by omega)
    simp only [tc_om]
    grind
  · intro j hj
    obtain ⟨q, hq⟩ : ∃ q, q = I - (j + 1) := ⟨_, rfl⟩
    have hq' : I - j = q + 1 := by omega
    show tc_Sp _ _ (4 * (I - (j + 1))) _ (tc_om t v (j + 1) (I - (j + 1))) w (4 * (I - j)) (tc_om t v j (I - j)) w
    rw [← hq, hq']
    have c1 := C.2 (18 + 4 * q) (by omega) (by omega) (by omega)
    have c2 := C.2 (19 + 4 * q) (by omega) (by omega) (by omega)
    have c3 := C.2 (22 + 4 * q) (by omega) (by omega) (by omega)
    have c4 := C.2 (23 + 4 * q) (by omega) (by omega) (by omega)
    have c5 := C.2 (24 + 4 * q) (by omega) (by omega) (by omega)
    refine tc_sp_cast (tc_sp_seq (tc_sp_add (by omega)) (tc_sp_seq (tc_sp_pour (by omega) (by omega) (by omega)) (tc_sp_seq (tc_sp_pour (by omega) (by omega) (by omega)) (tc_sp_seq (tc_sp_add (by omega)) (tc_sp_walk (b' := 4 * (q + 1)) (by omega) ?_))))) ?_
    · rw [show (4 : Int32) = nI 4 from rfl, nI_add, pk_andN (by omega) 7 (by decide), Nat.mod_eq_of_lt (by omega)]
      exact congrArg nI (by omega)
    · rw [show 4 * q + 18 = 18 + 4 * q from by omega, show 4 * q + 19 = 19 + 4 * q from by omega, show 4 * q + 22 = 22 + 4 * q from by omega, show 4 * q + 23 = 23 + 4 * q from by omega, show 4 * q + 24 = 24 + 4 * q from by omega]
      funext i
      simp only [tc_up, tc_om, tc_fs, tc_m1, tc_p1]
      grind
  · omega
  · rw [Nat.sub_self]
  · omega
  · rw [Nat.sub_zero]
theorem tc_sp_walkBack {lv : Bool} {p : Nat} {t : Nat → Fin 16} {w : tc_Out} {v : Fin 16} {I : Nat} (C : tc_Cl t) (hI : I < 16) : tc_Sp (tc_walkBack lv) 5000 (4 * I) p (tc_bk t v I) w 0 (tc_up t 19 v) w := by
  have c0 := C.2 20 (by omega) (by omega) (by omega)
  refine tc_sp_for' (nb := 2 + (100 + 2)) I (fun k => 4 * k) (fun k => tc_bk t v k) (fun _ => w) (by omega) ?_ ?_ ?_ rfl rfl rfl rfl ?_ rfl (by omega)
  · simp only [tc_bk]
    grind
  · intro j hj
    simp only [tc_bk]
    grind
  · intro j hj
    have c1 := C.2 (19 + 4 * j) (by omega) (by omega) (by omega)
    have c2 := C.2 (23 + 4 * j) (by omega) (by omega) (by omega)
    have c3 := C.2 (24 + 4 * j) (by omega) (by omega) (by omega)
    refine tc_sp_cast (tc_sp_seq (tc_sp_add (by omega)) (tc_sp_seq (tc_sp_pour (by omega) (by omega) (by omega)) (tc_sp_walk (b' := 4 * j) (by omega) ?_))) ?_
    · rw [show nI (4 * (j + 1) + 20) + (-4) = nI (4 * j + 20) from by rw [show 4 * (j + 1) + 20 = 4 * j + 20 + 4 from by omega, ← nI_add (4 * j + 20) 4, show nI 4 = (4 : Int32) from rfl]; grind, pk_andN (by omega) 7 (by decide), Nat.mod_eq_of_lt (by omega)]
    · rw [show 4 * (j + 1) + 19 = 23 + 4 * j from by omega, show 4 * (j + 1) + 15 = 19 + 4 * j from by omega, show 4 * (j + 1) + 20 = 24 + 4 * j from by omega]
      funext i
      simp only [tc_up, tc_bk, tc_m1, tc_p1]
      grind
  · funext i
    simp only [tc_up, tc_bk]
    grind
def tc_fetch (lv : Bool) (x y : Nat) : tc_Fr := tc_seq (tc_addTo lv y 18) (tc_seq (tc_walkOut lv) (tc_seq (tc_lift lv) (tc_seq (tc_walkBack lv) (tc_seq (tc_clear lv x) (tc_pour lv 19 x 1)))))
def tc_store (lv : Bool) (x y : Nat) : tc_Fr := tc_seq (tc_addTo lv x 18) (tc_seq (tc_addTo lv y 19) (tc_seq (tc_walkOut lv) (tc_seq (tc_clear lv 17) (tc_seq (tc_pour lv 19 17 1) (tc_walkBack lv)))))
theorem tc_cl_el {t : Nat → Fin 16} (C : tc_Cl t) (i : Nat) (v : Fin 16) : tc_Cl (tc_up t (17 + 4 * i) v) :=
  ⟨fun j h1 h2 => (tc_up_n t v (by omega)).trans (C.1 j h1 h2), fun j h1 h2 h3 => (tc_up_n t v (by omega)).trans (C.2 j h1 h2 h3)⟩
theorem tc_sp_fetch {lv : Bool} {x y p : Nat} {t : Nat → Fin 16} {w : tc_Out} (C : tc_Cl t) (hx : x < 6) (hy : y < 6) : tc_Sp (tc_fetch lv x y) 20000 0 p t w 0 (tc_up t x (t (17 + 4 * (t y).val))) w := by
  have z6 := C.1 6 (by omega) (by omega)
  have z18 := C.2 18 (by omega) (by omega) (by omega)
  have z19 := C.2 19 (by omega) (by omega) (by omega)
  have hv := (t y).isLt
  have e1 : tc_up t 18 (t 18 + t y) = tc_om t 0 (t y).val 0 := by
    funext i
    simp only [tc_up, tc_om, tc_fv]
    grind
  have y1 := tc_sp_addTo (lv := lv) (p := p) (w := w) (c := y) (d := 18) (t := t) (by omega) (by omega) (by omega) (by omega) (by omega) z6
  rw [e1] at y1
  generalize t y = vy at *
  generalize hI : vy.val = I at *
  have c1 := C.2 (18 + 4 * I) (by omega) (by omega) (by omega)
  have c2 := C.2 (19 + 4 * I) (by omega) (by omega) (by omega)
  refine tc_sp_le (tc_sp_cast (tc_sp_seq y1 (tc_sp_seq (tc_sp_walkOut C hv) (tc_sp_seq (t1 := tc_bk t (t (17 + 4 * I)) I) (n1 := 130 + 100) (b1 := 4 * I) (w1 := w) (tc_sp_cast (tc_sp_seq (tc_sp_pour2 (by omega) (by omega) (by omega) (by omega) (by omega) (by omega)) (tc_sp_pour (by omega) (by omega) (by omega))) ?_) (tc_sp_seq (tc_sp_walkBack C hv) (tc_sp_seq (tc_sp_clear (by omega)) (tc_sp_pour (by omega) (by omega) (by omega))))))) ?_) (by omega)
  · rw [show 4 * I + 17 = 17 + 4 * I from by omega, show 4 * I + 18 = 18 + 4 * I from by omega, show 4 * I + 19 = 19 + 4 * I from by omega]
    funext i
    simp only [tc_up, tc_om, tc_bk, tc_f0, tc_p1]
    grind
  · generalize t (17 + 4 * I) = e
    funext i
    simp only [tc_up, tc_p1, Nat.zero_add]
    grind
theorem tc_sp_store {lv : Bool} {x y p : Nat} {t : Nat → Fin 16} {w : tc_Out} (C : tc_Cl t) (hx : x < 6) (hy : y < 6) : tc_Sp (tc_store lv x y) 20000 0 p t w 0 (tc_up t (17 + 4 * (t x).val) (t y)) w := by
  have z6 := C.1 6 (by omega) (by omega)
  have z18 := C.2 18 (by omega) (by omega) (by omega)
  have z19 := C.2 19 (by omega) (by omega) (by omega)
  have hv := (t x).isLt
  have e1 : tc_up (tc_up t 18 (t 18 + t x)) 19 (tc_up t 18 (t 18 + t x) 19 + tc_up t 18 (t 18 + t x) y) = tc_om t (t y) (t x).val 0 := by
    funext i
    simp only [tc_up, tc_om, tc_fv]
    grind
  have y1 := tc_sp_addTo (lv := lv) (p := p) (w := w) (c := x) (d := 18) (t := t) (by omega) (by omega) (by omega) (by omega) (by omega) z6
  have y2 := tc_sp_addTo (lv := lv) (p := tc_pl p (tc_addTo lv x 18).1) (w := w) (c := y) (d := 19) (t := tc_up t 18 (t 18 + t x)) (by omega) (by omega) (by omega) (by omega) (by omega) (by simp only [tc_up]; grind)
  rw [e1] at y2
  have c1 := C.2 (18 + 4 * (t x).val) (by omega) (by omega) (by omega)
  have c2 := C.2 (19 + 4 * (t x).val) (by omega) (by omega) (by omega)
  have c3 := C.2 (20 + 4 * (t x).val) (by omega) (by omega) (by omega)
  refine tc_sp_le (tc_sp_cast (tc_sp_seq y1 (tc_sp_seq y2 (tc_sp_seq (tc_sp_walkOut C hv) (tc_sp_seq (tc_sp_clear (by omega)) (tc_sp_seq (t1 := tc_bk (tc_up t (17 + 4 * (t x).val) (t y)) 0 (t x).val) (n1 := 100) (b1 := 4 * (t x).val) (w1 := w) (tc_sp_cast (tc_sp_pour (by omega) (by omega) (by omega)) ?_) (tc_sp_walkBack (tc_cl_el C _ _) hv)))))) ?_) (by omega)
  · generalize (t x).val = I at *
    rw [show 4 * I + 17 = 17 + 4 * I from by omega, show 4 * I + 19 = 19 + 4 * I from by omega]
    funext i
    simp only [tc_up, tc_om, tc_bk, tc_f0, tc_p1]
    grind
  · generalize t y = e
    generalize (t x).val = I at *
    funext i
    simp only [tc_up]
    grind
end
section
/-! part 06: statements: their code, what they mean, and that carrying out the one does the other -/
abbrev tc_A : Type := (Nat → Fin 16) × (Nat → Fin 16) × tc_Out
def tc_tp (vs es br : Nat → Fin 16) : Nat → Fin 16 := fun j => if j < 6 then vs j else if 13 ≤ j ∧ j ≤ 16 then br j else if 17 ≤ j ∧ j < 81 ∧ j % 4 = 1 then es ((j - 17) / 4) else 0
theorem tc_tp_cl (vs es br : Nat → Fin 16) : tc_Cl (tc_tp vs es br) := by
  refine ⟨fun j h1 h2 => ?_, fun j h1 h2 h3 => ?_⟩
  · simp only [tc_tp]
    grind
  · simp only [tc_tp]
    grind
theorem tc_tp_v (vs es br : Nat → Fin 16) {x : Nat} (h : x < 6) : tc_tp vs es br x = vs x := if_pos h
theorem tc_tp_b (vs es br : Nat → Fin 16) {x : Nat} (h : 13 ≤ x) (h' : x ≤ 16) : tc_tp vs es br x = br x := by
  simp only [tc_tp]
  grind
theorem tc_tp_e (vs es br : Nat → Fin 16) {i : Nat} (h : i < 16) : tc_tp vs es br (17 + 4 * i) = es i := by
  simp only [tc_tp]
  rw [if_neg (by omega), if_neg (by omega), if_pos (by omega)]
  exact congrArg es (by omega)
theorem tc_tp_uv (vs es br : Nat → Fin 16) {x : Nat} (v : Fin 16) (h : x < 6) : tc_up (tc_tp vs es br) x v = tc_tp (tc_up vs x v) es br := by
  funext j
  simp only [tc_tp, tc_up]
  grind
theorem tc_tp_ub (vs es br : Nat → Fin 16) {x : Nat} (v : Fin 16) (h : 13 ≤ x) (h' : x ≤ 16) : tc_up (tc_tp vs es br) x v = tc_tp vs es (tc_up br x v) := by
  funext j
  simp only [tc_tp, tc_up]
  grind
theorem tc_tp_ue (vs es br : Nat → Fin 16) {i : Nat} (v : Fin 16) (h : i < 16) : tc_up (tc_tp vs es br) (17 + 4 * i) v = tc_tp vs (tc_up es i v) br := by
  funext j
  simp only [tc_tp, tc_up]
  by_cases e : j = 17 + 4 * i
  · rw [if_pos e, if_neg (by omega), if_neg (by omega), if_pos (by omega), if_pos (by omega)]
  · rw [if_neg e]
    by_cases c1 : j < 6
    · rw [if_pos c1, if_pos c1]
    · rw [if_neg c1, if_neg c1]
      by_cases c2 : 13 ≤ j ∧ j ≤ 16
      · rw [if_pos c2, if_pos c2]
      · rw [if_neg c2, if_neg c2]
        by_cases c3 : 17 ≤ j ∧ j < 81 ∧ j % 4 = 1
        · rw [if_pos c3, if_pos c3, if_neg (by omega)]
        · rw [if_neg c3, if_neg c3]
def tc_simple (lv : Bool) (k x y z : Nat) : tc_Fr :=
  if k = 0 then tc_seq (tc_clear lv x) (tc_tok (1, x, nI y))
  else if k = 1 then tc_seq (tc_addTo lv y 7) (tc_seq (tc_clear lv x) (tc_pour lv 7 x 1))
  else if k = 2 then tc_seq (tc_addTo lv y 7) (tc_pour lv 7 x 1)
  else if k = 3 then tc_seq (tc_addTo lv y 7) (tc_pour lv 7 x (-1))
  else if k = 4 then tc_product lv x y z
  else if k = 5 then tc_less lv x y z
  else if k = 6 then tc_equal lv x y z
  else if k = 7 then tc_fetch lv x y
  else if k = 8 then tc_store lv x y
  else if k = 9 then tc_tok (4, x, 0)
  else tc_quot lv x y z
def tc_evs (k x y z : Nat) (A : tc_A) : tc_A :=
  if k = 0 then (tc_up A.1 x (tc_toV (nI y)), A.2)
  else if k = 1 then (tc_up A.1 x (A.1 y), A.2)
  else if k = 2 then (tc_up A.1 x (A.1 x + tc_toV 1 * A.1 y), A.2)
  else if k = 3 then (tc_up A.1 x (A.1 x + tc_toV (-1) * A.1 y), A.2)
  else if k = 4 then (tc_up A.1 x (A.1 y * A.1 z), A.2)
  else if k = 5 then (tc_up A.1 x (if A.1 y < A.1 z then 1 else 0), A.2)
  else if k = 6 then (tc_up A.1 x (if A.1 y = A.1 z then 1 else 0), A.2)
  else if k = 7 then (tc_up A.1 x (A.2.1 (A.1 y).val), A.2)
  else if k = 8 then (A.1, tc_up A.2.1 (A.1 x).val (A.1 y), A.2.2)
  else if k = 9 then (A.1, A.2.1, tc_say A.2.2 (tc_I (A.1 x)))
  else (tc_up A.1 x (A.1 y / A.1 z), A.2)
theorem tc_sp_simple {lv : Bool} {k x y z p : Nat} {A : tc_A} {br : Nat → Fin 16} (hx : x < 6) (hy : k ≠ 0 → k ≠ 9 → y < 6) (hz : k = 4 ∨ k = 5 ∨ k = 6 ∨ 9 < k → z < 6) : tc_Sp (tc_simple lv k x y z) 20000 0 p (tc_tp A.1 A.2.1 br) A.2.2 0 (tc_tp (tc_evs k x y z A).1 (tc_evs k x y z A).2.1 br) (tc_evs k x y z A).2.2 := by
  have C := tc_tp_cl A.1 A.2.1 br
  have ex := tc_tp_v A.1 A.2.1 br hx
  unfold tc_simple tc_evs
  by_cases k0 : k = 0
  · rw [if_pos k0, if_pos k0]
    have := tc_sp_set (lv := lv) (y := nI y) (p := p) (t := tc_tp A.1 A.2.1 br) (w := A.2.2) hx
    rw [tc_tp_uv _ _ _ _ hx] at this
    exact tc_sp_le this (by omega)
  rw [if_neg k0, if_neg k0]
  by_cases k9 : k = 9
  · subst k9
    have := tc_sp_print (c := x) (n := 0) (p := p) (b := 0) (t := tc_tp A.1 A.2.1 br) (w := A.2.2) (by omega)
    rw [Nat.zero_add, ex] at this
    exact tc_sp_le this (by omega)
  have hy := hy k0 k9
  have ey := tc_tp_v A.1 A.2.1 br hy
  by_cases k1 : k = 1
  · rw [if_pos k1, if_pos k1]
    have := tc_sp_copy (lv := lv) (p := p) (w := A.2.2) C hx hy
    rw [tc_tp_uv _ _ _ _ hx, ey] at this
    exact tc_sp_le this (by omega)
  rw [if_neg k1, if_neg k1]
  by_cases k2 : k = 2
  · rw [if_pos k2, if_pos k2]
    have := tc_sp_plus (lv := lv) (p := p) (n := 1) (w := A.2.2) C hx hy
    rw [tc_tp_uv _ _ _ _ hx, ey, ex] at this
    exact tc_sp_le this (by omega)
  rw [if_neg k2, if_neg k2]
  by_cases k3 : k = 3
  · rw [if_pos k3, if_pos k3]
    have := tc_sp_plus (lv := lv) (p := p) (n := -1) (w := A.2.2) C hx hy
    rw [tc_tp_uv _ _ _ _ hx, ey, ex] at this
    exact tc_sp_le this (by omega)
  rw [if_neg k3, if_neg k3]
  by_cases k4 : k = 4
  · rw [if_pos k4, if_pos k4]
    have hz := hz (by omega)
    have := tc_sp_product (lv := lv) (p := p) (w := A.2.2) C hx hy hz
    rw [tc_tp_uv _ _ _ _ hx, ey, tc_tp_v _ _ _ hz] at this
    exact tc_sp_le this (by omega)
  rw [if_neg k4, if_neg k4]
  by_cases k5 : k = 5
  · rw [if_pos k5, if_pos k5]
    have hz := hz (by omega)
    have := tc_sp_less (lv := lv) (p := p) (w := A.2.2) C hx hy hz
    rw [tc_tp_uv _ _ _ _ hx, ey, tc_tp_v _ _ _ hz] at this
    exact tc_sp_le this (by omega)
  rw [if_neg k5, if_neg k5]
  by_cases k6 : k = 6
  · rw [if_pos k6, if_pos k6]
    have hz := hz (by omega)
    have := tc_sp_equal (lv := lv) (p := p) (w := A.2.2) C hx hy hz
    rw [tc_tp_uv _ _ _ _ hx, ey, tc_tp_v _ _ _ hz] at this
    exact tc_sp_le this (by omega)
  rw [if_neg k6, if_neg k6]
  by_cases k7 : k = 7
  · rw [if_pos k7, if_pos k7]
    have := tc_sp_fetch (lv := lv) (p := p) (w := A.2.2) C hx hy
    rw [tc_tp_uv _ _ _ _ hx, ey, tc_tp_e _ _ _ (A.1 y).isLt] at this
    exact tc_sp_le this (by omega)
  rw [if_neg k7, if_neg k7]
  by_cases k8 : k = 8
  · rw [if_pos k8, if_pos k8]
    have := tc_sp_store (lv := lv) (p := p) (w := A.2.2) C hx hy
    rw [ex, ey, tc_tp_ue _ _ _ _ (A.1 x).isLt] at this
    exact tc_sp_le this (by omega)
  rw [if_neg k8, if_neg k8, if_neg k9, if_neg k9]
  have hz := hz (by omega)
  have := tc_sp_quot (lv := lv) (p := p) (w := A.2.2) C hx hy hz
  rw [tc_tp_uv _ _ _ _ hx, ey, tc_tp_v _ _ _ hz] at this
  exact tc_sp_le this (by omega)
/-- choosing and repeating -/
def tc_choose (lv : Bool) (x ns : Nat) (a b : tc_Fr) : tc_Fr :=
  tc_seq (tc_addTo lv x (13 + 2 * ns)) (tc_seq (tc_tok (1, 14 + 2 * ns, 1)) (tc_seq (tc_loop false (13 + 2 * ns) (tc_seq (tc_tok (1, 14 + 2 * ns, -1)) (tc_seq (tc_clear lv (13 + 2 * ns)) a))) (tc_loop false (14 + 2 * ns) (tc_seq (tc_tok (1, 14 + 2 * ns, -1)) b))))
def tc_repeat (lv : Bool) (x ns : Nat) (a : tc_Fr) : tc_Fr :=
  tc_seq (tc_addTo lv x (13 + 2 * ns)) (tc_loop false (13 + 2 * ns) (tc_seq (tc_tok (1, 13 + 2 * ns, -1)) a))
def tc_it (g : tc_A → tc_A) : Nat → tc_A → tc_A
  | 0, a => a
  | k + 1, a => tc_it g k (g a)
theorem tc_it_s (g : tc_A → tc_A) : ∀ (k : Nat) (a : tc_A), tc_it g (k + 1) a = g (tc_it g k a)
  | 0, _ => rfl
  | k + 1, a => tc_it_s g k (g a)
def tc_run (a : tc_Fr) (n : Nat) (br : Nat → Fin 16) (A A' : tc_A) : Prop := ∀ p, tc_Sp a n 0 p (tc_tp A.1 A.2.1 br) A.2.2 0 (tc_tp A'.1 A'.2.1 br) A'.2.2
theorem tc_sp_choose {lv : Bool} {x ns : Nat} {a b : tc_Fr} {na nb : Nat} {br : Nat → Fin 16} {A Aa Ab : tc_A} (hx : x < 6) (hns : ns ≤ 1) (z1 : br (13 + 2 * ns) = 0) (z2 : br (14 + 2 * ns) = 0) (ha : tc_run a na br A Aa) (hb : tc_run b nb br A Ab) : tc_run (tc_choose lv x ns a b) (400 + na + nb) br A (if A.1 x = 0 then Ab else Aa) := by
  intro p
  have z6 := (tc_tp_cl A.1 A.2.1 br).1 6 (by omega) (by omega)
  have s1 := tc_sp_addTo (lv := lv) (c := x) (d := 13 + 2 * ns) (p := p) (w := A.2.2) (t := tc_tp A.1 A.2.1 br) (by omega) (by omega) (by omega) (by omega) (by omega) z6
  rw [tc_tp_ub _ _ _ _ (by omega) (by omega), tc_tp_b _ _ _ (by omega) (by omega), tc_tp_v _ _ _ hx, z1, show (0 : Fin 16) + A.1 x = A.1 x from Fin.zero_add _] at s1
  have s2 := tc_sp_add (c := 14 + 2 * ns) (n := 1) (b := 0) (p := tc_pl p (tc_addTo lv x (13 + 2 * ns)).1) (w := A.2.2) (t := tc_tp A.1 A.2.1 (tc_up br (13 + 2 * ns) (A.1 x))) (by omega)
  rw [Nat.zero_add, tc_tp_ub _ _ _ _ (by omega) (by omega), tc_tp_b _ _ _ (by omega) (by omega), tc_up_n _ _ (by omega), z2, show (0 : Fin 16) + tc_toV 1 = 1 from by decide] at s2
  by_cases v0 : A.1 x = 0
  · rw [if_pos v0]
    refine tc_sp_le (n := 230 + (2 + (0 + 4 + (2 + nb + 4)))) (tc_sp_seq s1 (tc_sp_seq s2 (tc_sp_seq (t1 := tc_tp A.1 A.2.1 (tc_up br (14 + 2 * ns) 1)) (w1 := A.2.2) (b1 := 0) (tc_sp_if (nb := 0) (by omega) ?_ ?_ ?_ (Nat.le_refl _)) (tc_sp_if (nb := 2 + nb) (by omega) (fun _ => tc_sp_seq (t1 := tc_tp A.1 A.2.1 br) (w1 := A.2.2) (b1 := 0) (tc_sp_cast (tc_sp_add (by omega)) ?_) (hb _)) ?_ ?_ (Nat.le_refl _))))) (by omega)
    · intro h
      rw [Nat.zero_add, tc_tp_b _ _ _ (by omega) (by omega), tc_up_n _ _ (by omega), tc_up_s] at h
      exact absurd v0 h
    · intro h
      rw [Nat.zero_add, tc_tp_b _ _ _ (by omega) (by omega), tc_up_n _ _ (by omega), tc_up_s] at h
      exact absurd v0 h
    · intro _
      refine ⟨congrArg (tc_tp A.1 A.2.1) ?_, rfl⟩
      rw [v0]
      funext i
      simp only [tc_up]
      grind
    · rw [Nat.zero_add, tc_tp_ub _ _ _ _ (by omega) (by omega), tc_tp_b _ _ _ (by omega) (by omega), tc_up_s, tc_m1]
      refine congrArg (tc_tp A.1 A.2.1) ?_
      funext i
      simp only [tc_up]
      grind
    · intro _
      rw [Nat.zero_add, tc_tp_b _ _ _ (by omega) (by omega)]
      exact z2
    · intro h
      rw [Nat.zero_add, tc_tp_b _ _ _ (by omega) (by omega), tc_up_s] at h
      exact absurd h (by decide)
  · rw [if_neg v0]
    refine tc_sp_le (n := 230 + (2 + (2 + (64 + na) + 4 + (0 + 4)))) (tc_sp_seq s1 (tc_sp_seq s2 (tc_sp_seq (t1 := tc_tp Aa.1 Aa.2.1 br) (w1 := Aa.2.2) (b1 := 0) (tc_sp_if (nb := 2 + (64 + na)) (by omega) (fun _ => tc_sp_seq (tc_sp_add (by omega)) (tc_sp_seq (t1 := tc_tp A.1 A.2.1 br) (w1 := A.2.2) (b1 := 0) (tc_sp_cast (tc_sp_clear (by omega)) ?_) (ha _))) ?_ ?_ (Nat.le_refl _)) (tc_sp_if (nb := 0) (by omega) ?_ ?_ ?_ (Nat.le_refl _))))) (by omega)
    · rw [Nat.zero_add, Nat.zero_add, tc_tp_ub _ _ _ _ (by omega) (by omega), tc_tp_ub _ _ _ _ (by omega) (by omega), tc_tp_b _ _ _ (by omega) (by omega), tc_up_s, tc_m1]
      refine congrArg (tc_tp A.1 A.2.1) ?_
      funext i
      simp only [tc_up]
      grind
    · intro _
      rw [Nat.zero_add, tc_tp_b _ _ _ (by omega) (by omega)]
      exact z1
    · intro h
      rw [Nat.zero_add, tc_tp_b _ _ _ (by omega) (by omega), tc_up_n _ _ (by omega), tc_up_s] at h
      exact absurd h v0
    · intro h
      rw [Nat.zero_add, tc_tp_b _ _ _ (by omega) (by omega)] at h
      exact absurd z2 h
    · intro h
      rw [Nat.zero_add, tc_tp_b _ _ _ (by omega) (by omega)] at h
      exact absurd z2 h
    · intro _
      exact ⟨rfl, rfl⟩
theorem tc_sp_repeat {lv : Bool} {x ns : Nat} {a : tc_Fr} {na : Nat} {br : Nat → Fin 16} {A : tc_A} {g : tc_A → tc_A} (hx : x < 6) (hns : ns ≤ 1) (z1 : br (13 + 2 * ns) = 0) (ha : ∀ v A, tc_run a na (tc_up br (13 + 2 * ns) v) A (g A)) : tc_run (tc_repeat lv x ns a) (292 + 15 * na) br A (tc_it g (A.1 x).val A) := by
  intro p
  have hv := (A.1 x).isLt
  have z6 := (tc_tp_cl A.1 A.2.1 br).1 6 (by omega) (by omega)
  have s1 := tc_sp_addTo (lv := lv) (c := x) (d := 13 + 2 * ns) (p := p) (w := A.2.2) (t := tc_tp A.1 A.2.1 br) (by omega) (by omega) (by omega) (by omega) (by omega) z6
  rw [tc_tp_ub _ _ _ _ (by omega) (by omega), tc_tp_b _ _ _ (by omega) (by omega), tc_tp_v _ _ _ hx, z1, show (0 : Fin 16) + A.1 x = A.1 x from Fin.zero_add _] at s1
  have hk : (A.1 x).val * (2 + na + 2) ≤ 15 * (2 + na + 2) := Nat.mul_le_mul_right _ (by omega)
  refine tc_sp_le (n := 230 + (2 + 15 * (2 + na + 2))) (tc_sp_seq s1 (tc_sp_for' (nb := 2 + na) (A.1 x).val (fun _ => 0) (fun j => tc_tp (tc_it g ((A.1 x).val - j) A).1 (tc_it g ((A.1 x).val - j) A).2.1 (tc_up br (13 + 2 * ns) (tc_f j))) (fun j => (tc_it g ((A.1 x).val - j) A).2.2) (by omega) ?_ ?_ ?_ rfl ?_ ?_ rfl ?_ rfl (by omega))) (by omega)
  · rw [Nat.zero_add, tc_tp_b _ _ _ (by omega) (by omega), tc_up_s, tc_f0]
  · intro j hj
    show tc_tp _ _ _ _ ≠ 0
    rw [Nat.zero_add, tc_tp_b _ _ _ (by omega) (by omega), tc_up_s]
    exact tc_fn (by omega)
  · intro j hj
    show tc_Sp _ _ _ _ (tc_tp (tc_it g ((A.1 x).val - (j + 1)) A).1 (tc_it g ((A.1 x).val - (j + 1)) A).2.1 (tc_up br (13 + 2 * ns) (tc_f (j + 1)))) (tc_it g ((A.1 x).val - (j + 1)) A).2.2 _ (tc_tp (tc_it g ((A.1 x).val - j) A).1 (tc_it g ((A.1 x).val - j) A).2.1 (tc_up br (13 + 2 * ns) (tc_f j))) (tc_it g ((A.1 x).val - j) A).2.2
    rw [show (A.1 x).val - j = (A.1 x).val - (j + 1) + 1 from by omega, tc_it_s]
    generalize tc_it g ((A.1 x).val - (j + 1)) A = B
    refine tc_sp_seq (t1 := tc_tp B.1 B.2.1 (tc_up br (13 + 2 * ns) (tc_f j))) (w1 := B.2.2) (b1 := 0) (tc_sp_cast (tc_sp_add (by omega)) ?_) (ha _ _ _)
    rw [Nat.zero_add, tc_tp_ub _ _ _ _ (by omega) (by omega), tc_tp_b _ _ _ (by omega) (by omega), tc_up_s, tc_m1, tc_fs, tc_r2]
    refine congrArg (tc_tp B.1 B.2.1) ?_
    funext i
    simp only [tc_up]
    grind
  · rw [Nat.sub_self, tc_fv]
    rfl
  · rw [Nat.sub_self]
    rfl
  · rw [Nat.sub_zero, tc_f0]
    refine congrArg (tc_tp _ _) ?_
    funext i
    simp only [tc_up]
    grind
end
section
/-! part 07: the table of statements, their code and their meaning by their numbers -/
section
variable (K X Y Z Wt Nt : Nat → Nat)
def tc_Ok (s : Nat) : Prop :=
  K s ≤ 13 ∧ 1 ≤ Wt s ∧ Wt s ≤ 12 ∧ Nt s ≤ 2 ∧
  (K s = 10 → X s < s ∧ Y s < s ∧ Wt s = 1 + Wt (X s) + Wt (Y s) ∧ Nt (X s) ≤ Nt s ∧ Nt (Y s) ≤ Nt s) ∧
  (K s = 11 → Y s < s ∧ Z s < s ∧ Wt s = 1 + Wt (Y s) + Wt (Z s) ∧ Nt (Y s) + 1 ≤ Nt s ∧ Nt (Z s) + 1 ≤ Nt s) ∧
  (K s = 12 → Y s < s ∧ Wt s = 1 + Wt (Y s) ∧ Nt (Y s) + 1 ≤ Nt s) ∧
  (K s ≠ 10 → X s < 6) ∧ (K s = 0 → Y s < 16) ∧
  (K s ≠ 0 → K s ≠ 9 → K s ≠ 10 → K s ≠ 11 → K s ≠ 12 → Y s < 6) ∧
  (K s = 4 ∨ K s = 5 ∨ K s = 6 ∨ K s = 13 → Z s < 6)
def tc_cd (lv : Bool) : Nat → Nat → Nat → tc_Fr
  | 0, _, _ => ([], fun _ _ => [])
  | f + 1, s, ns =>
    if K s = 10 then tc_seq (tc_cd lv f (X s) ns) (tc_cd lv f (Y s) ns)
    else if K s = 11 then tc_choose lv (X s) ns (tc_cd lv f (Y s) (ns + 1)) (tc_cd lv f (Z s) (ns + 1))
    else if K s = 12 then tc_repeat lv (X s) ns (tc_cd lv f (Y s) (ns + 1))
    else tc_simple lv (K s) (X s) (Y s) (Z s)
def tc_ev : Nat → Nat → tc_A → tc_A
  | 0, _, A => A
  | f + 1, s, A =>
    if K s = 10 then tc_ev f (Y s) (tc_ev f (X s) A)
    else if K s = 11 then (if A.1 (X s) = 0 then tc_ev f (Z s) A else tc_ev f (Y s) A)
    else if K s = 12 then tc_it (tc_ev f (Y s)) (A.1 (X s)).val A
    else tc_evs (K s) (X s) (Y s) (Z s) A
def tc_bnd (s : Nat) : Nat := 20000 * (Wt s * 16 ^ Nt s)
theorem tc_bnd_a (w d w1 d1 w2 d2 : Nat) (hw : w = 1 + w1 + w2) (h1 : d1 ≤ d) (h2 : d2 ≤ d) : 400 + 20000 * (w1 * 16 ^ d1) + 20000 * (w2 * 16 ^ d2) ≤ 20000 * (w * 16 ^ d) := by
  have p := Nat.pow_le_pow_right (n := 16) (by omega) h1
  have q := Nat.pow_le_pow_right (n := 16) (by omega) h2
  have r : 1 ≤ 16 ^ d := Nat.pow_pos (by decide)
  have p' := Nat.mul_le_mul_left w1 p
  have q' := Nat.mul_le_mul_left w2 q
  have e : w * 16 ^ d = 16 ^ d + w1 * 16 ^ d + w2 * 16 ^ d := by rw [hw, Nat.add_mul, Nat.add_mul, Nat.one_mul]
  rw [e]
  generalize 16 ^ d = P at *
  generalize w1 * P = a at *
  generalize w2 * P = b at *
  generalize w1 * 16 ^ d1 = a' at *
  generalize w2 * 16 ^ d2 = b' at *
  omega
theorem tc_bnd_r (w d w1 d1 : Nat) (hw : w = 1 + w1) (h1 : d1 + 1 ≤ d) : 292 + 15 * (20000 * (w1 * 16 ^ d1)) ≤ 20000 * (w * 16 ^ d) := by
  have p := Nat.pow_le_pow_right (n := 16) (by omega) h1
  have r : 1 ≤ 16 ^ d := Nat.pow_pos (by decide)
  have p' := Nat.mul_le_mul_left w1 p
  have e : w * 16 ^ d = 16 ^ d + w1 * 16 ^ d := by rw [hw, Nat.add_mul, Nat.one_mul]
  rw [e]
  rw [Nat.pow_succ, ← Nat.mul_assoc] at p'
  generalize 16 ^ d = P at *
  generalize w1 * P = a at *
  generalize w1 * 16 ^ d1 = a' at *
  omega
theorem tc_bnd_1 (w d : Nat) (h : 1 ≤ w) : 20000 ≤ 20000 * (w * 16 ^ d) := by
  have r : 1 ≤ 16 ^ d := Nat.pow_pos (by decide)
  have := Nat.mul_le_mul h r
  omega
theorem tc_run_le {a : tc_Fr} {n n' : Nat} {br : Nat → Fin 16} {A A' : tc_A} (h : tc_run a n br A A') (hn : n ≤ n') : tc_run a n' br A A' := fun p => tc_sp_le (h p) hn
/-- carrying out a statement's code does what the statement means -/
theorem tc_main (lv : Bool) (n : Nat) (ok : ∀ s, s < n → tc_Ok K X Y Z Wt Nt s) : ∀ (f s ns : Nat) (br : Nat → Fin 16) (A : tc_A), s < n → s < f → ns + Nt s ≤ 2 → (∀ j, 13 + 2 * ns ≤ j → br j = 0) → tc_run (tc_cd K X Y Z lv f s ns) (tc_bnd Wt Nt s) br A (tc_ev K X Y Z f s A) := by
  intro f
  induction f with
  | zero => intro s ns br A h1 h2; omega
  | succ f ih =>
    intro s ns br A h1 h2 h3 hz
    obtain ⟨o1, o2, o3, o4, o10, o11, o12, ox, oy0, oy, oz⟩ := ok s h1
    unfold tc_cd tc_ev
    by_cases k10 : K s = 10
    · rw [if_pos k10, if_pos k10]
      obtain ⟨q1, q2, q3, q4, q5⟩ := o10 k10
      intro p
      have a1 := ih (X s) ns br A (by omega) (by omega) (by omega) hz
      have a2 := ih (Y s) ns br (tc_ev K X Y Z f (X s) A) (by omega) (by omega) (by omega) hz
      exact tc_sp_le (tc_sp_seq (a1 p) (a2 _)) (Nat.le_trans (by unfold tc_bnd; omega) (tc_bnd_a _ _ _ _ _ _ q3 q4 q5))
    rw [if_neg k10, if_neg k10]
    by_cases k11 : K s = 11
    · rw [if_pos k11, if_pos k11]
      obtain ⟨q1, q2, q3, q4, q5⟩ := o11 k11
      have a1 := ih (Y s) (ns + 1) br A (by omega) (by omega) (by omega) (fun j hj => hz j (by omega))
      have a2 := ih (Z s) (ns + 1) br A (by omega) (by omega) (by omega) (fun j hj => hz j (by omega))
      exact tc_run_le (tc_sp_choose (ox k10) (by omega) (hz _ (by omega)) (hz _ (by omega)) a1 a2) (tc_bnd_a _ _ _ _ _ _ q3 (by omega) (by omega))
    rw [if_neg k11, if_neg k11]
    by_cases k12 : K s = 12
    · rw [if_pos k12, if_pos k12]
      obtain ⟨q1, q2, q3⟩ := o12 k12
      refine tc_run_le (tc_sp_repeat (ox k10) (by omega) (hz _ (by omega)) (fun v B => ih (Y s) (ns + 1) _ B (by omega) (by omega) (by omega) ?_)) (tc_bnd_r _ _ _ _ q2 q3)
      intro j hj
      rw [tc_up_n _ _ (by omega)]
      exact hz j (by omega)
    rw [if_neg k12, if_neg k12]
    intro p
    exact tc_sp_le (tc_sp_simple (ox k10) (fun e1 e2 => oy e1 e2 k10 k11 k12) (fun e => oz (by omega))) (tc_bnd_1 _ _ o2)
/-- the code doesn't hang on how deep the recursion may go -/
theorem tc_cd_f (lv : Bool) (n : Nat) (ok : ∀ s, s < n → tc_Ok K X Y Z Wt Nt s) : ∀ (f f' s ns : Nat), s < n → s < f → s < f' → tc_cd K X Y Z lv f s ns = tc_cd K X Y Z lv f' s ns := by
  intro f
  induction f with
  | zero => intro f' s ns h1 h2; omega
  | succ f ih =>
    intro f' s ns h1 h2 h3
    obtain ⟨o1, o2, o3, o4, o10, o11, o12, ox, oy0, oy, oz⟩ := ok s h1
    cases f' with
    | zero => omega
    | succ f' =>
      unfold tc_cd
      by_cases k10 : K s = 10
      · rw [if_pos k10, if_pos k10]
        obtain ⟨q1, q2, q3, q4, q5⟩ := o10 k10
        rw [ih f' (X s) ns (by omega) (by omega) (by omega), ih f' (Y s) ns (by omega) (by omega) (by omega)]
      rw [if_neg k10, if_neg k10]
      by_cases k11 : K s = 11
      · rw [if_pos k11, if_pos k11]
        obtain ⟨q1, q2, q3, q4, q5⟩ := o11 k11
        rw [ih f' (Y s) (ns + 1) (by omega) (by omega) (by omega), ih f' (Z s) (ns + 1) (by omega) (by omega) (by omega)]
      rw [if_neg k11, if_neg k11]
      by_cases k12 : K s = 12
      · rw [if_pos k12, if_pos k12]
        obtain ⟨q1, q2, q3⟩ := o12 k12
        rw [ih f' (Y s) (ns + 1) (by omega) (by omega) (by omega)]
      rw [if_neg k12, if_neg k12]
theorem tc_ev_f (n : Nat) (ok : ∀ s, s < n → tc_Ok K X Y Z Wt Nt s) : ∀ (f f' s : Nat), s < n → s < f → s < f' → tc_ev K X Y Z f s = tc_ev K X Y Z f' s := by
  intro f
  induction f with
  | zero => intro f' s h1 h2; omega
  | succ f ih =>
    intro f' s h1 h2 h3
    obtain ⟨o1, o2, o3, o4, o10, o11, o12, ox, oy0, oy, oz⟩ := ok s h1
    cases f' with
    | zero => omega
    | succ f' =>
      funext A
      unfold tc_ev
      by_cases k10 : K s = 10
      · rw [if_pos k10, if_pos k10]
        obtain ⟨q1, q2, q3, q4, q5⟩ := o10 k10
        rw [ih f' (X s) (by omega) (by omega) (by omega), ih f' (Y s) (by omega) (by omega) (by omega)]
      rw [if_neg k10, if_neg k10]
      by_cases k11 : K s = 11
      · rw [if_pos k11, if_pos k11]
        obtain ⟨q1, q2, q3, q4, q5⟩ := o11 k11
        rw [ih f' (Y s) (by omega) (by omega) (by omega), ih f' (Z s) (by omega) (by omega) (by omega)]
      rw [if_neg k11, if_neg k11]
      by_cases k12 : K s = 12
      · rw [if_pos k12, if_pos k12]
        obtain ⟨q1, q2, q3⟩ := o12 k12
        rw [ih f' (Y s) (by omega) (by omega) (by omega)]
      rw [if_neg k12, if_neg k12]
end
end
section
/-! part 08: matching and folding, by the pieces -/
def tc_cf : Int32 → Int32 → List tc_Raw → Bool
  | aw, ow, [] => decide (aw = 0) && decide (ow = -1)
  | aw, ow, x :: L => if x.1 = 0 then tc_cf (aw + x.2) ow L else if x.1 = 1 then (if aw = 0 then tc_cf aw (ow + x.2) L else tc_cf aw ow L) else false
theorem tc_cf_no : ∀ (L : List tc_Raw) (aw ow : Int32), (∃ x, x ∈ L ∧ x.1 ≠ 0 ∧ x.1 ≠ 1) → tc_cf aw ow L = false
  | [], _, _, ⟨x, h, _⟩ => by cases h
  | y :: L, aw, ow, ⟨x, h, h0, h1⟩ => by
    unfold tc_cf
    by_cases e0 : y.1 = 0
    · rw [if_pos e0]
      refine tc_cf_no L _ _ ⟨x, ?_, h0, h1⟩
      cases h with
      | head => exact absurd e0 h0
      | tail _ h => exact h
    · rw [if_neg e0]
      by_cases e1 : y.1 = 1
      · rw [if_pos e1]
        have : ∃ x, x ∈ L ∧ x.1 ≠ 0 ∧ x.1 ≠ 1 := by
          refine ⟨x, ?_, h0, h1⟩
          cases h with
          | head => exact absurd e1 h1
          | tail _ h => exact h
        by_cases ea : aw = 0
        · rw [if_pos ea]; exact tc_cf_no L _ _ this
        · rw [if_neg ea]; exact tc_cf_no L _ _ this
      · rw [if_neg e1]
def tc_MR (lev : Int32) (len : Nat) (W : Nat → Nat → (Nat → Int32) → (Nat → Int32) → (Nat → Int32) → Prop) : Prop :=
  (∀ d i ops args st, i < len → ops i ≠ 2 → ops i ≠ 3 → W d (i + 1) ops args st → W d i ops args st) ∧
  (∀ d i ops args st, i < len → ops i = 2 → d < 16 → W (d + 1) (i + 1) ops args (upd st d (nI i)) → W d i ops args st) ∧
  (∀ d i ops args st s L, i < len → ops i = 3 → d < 16 → st d = nI s → tc_hold ops args (s + 1) L → i = s + 1 + L.length →
    W d (i + 1) (if lev = 1 ∧ tc_cf 0 0 L = true then upd (upd ops s 5) i 6 else ops) (upd (upd args s (nI i)) i (nI s)) st → W (d + 1) i ops args st)
def tc_MT (lev : Int32) (dp : Nat) (a : tc_Fr) : Prop :=
  (∀ p o, (a.2 p o).length = (tc_em p a.1).length) ∧
  ∀ (len : Nat) (W : Nat → Nat → (Nat → Int32) → (Nat → Int32) → (Nat → Int32) → Prop), tc_MR lev len W → ∀ p o d ops args st, tc_hold ops args o (tc_em p a.1) → o + (tc_em p a.1).length ≤ len → d + dp ≤ 16 →
    (∀ ops' args' st', tc_hold ops' args' o (a.2 p o) → (∀ j, (j < o ∨ o + (tc_em p a.1).length ≤ j) → ops' j = ops j ∧ args' j = args j) → (∀ j, j < d → st' j = st j) → W d (o + (tc_em p a.1).length) ops' args' st') → W d o ops args st
theorem tc_mt_mv {lev : Int32} {len : Nat} {W : Nat → Nat → (Nat → Int32) → (Nat → Int32) → (Nat → Int32) → Prop} (H : tc_MR lev len W) {p c o d : Nat} {ops args st : Nat → Int32} (hh : tc_hold ops args o (tc_mv p c)) (hl : o + (tc_mv p c).length ≤ len) (hw : W d (o + (tc_mv p c).length) ops args st) : W d o ops args st := by
  unfold tc_mv at hh hl hw
  by_cases e : c = p
  · rw [if_pos e] at hw
    exact hw
  · rw [if_neg e] at hh hl hw
    have h0 : ops o = 0 := hh.1
    refine H.1 d o ops args st (by have : o + 1 ≤ len := hl; omega) ?_ ?_ hw
    · rw [h0]; decide
    · rw [h0]; decide
theorem tc_mt_le {lev : Int32} {dp dp' : Nat} {a : tc_Fr} (h : tc_MT lev dp a) (hd : dp ≤ dp') : tc_MT lev dp' a :=
  ⟨h.1, fun len W H p o d ops args st h1 h2 h3 => h.2 len W H p o d ops args st h1 h2 (by omega)⟩
theorem tc_mt_tok {lev : Int32} {dp : Nat} {op : Int32} {c : Nat} {n : Int32} (h2 : op ≠ 2) (h3 : op ≠ 3) : tc_MT lev dp (tc_tok (op, c, n)) := by
  refine ⟨fun p o => rfl, ?_⟩
  intro len W H p o d ops args st hh hl hd hw
  have hA := (tc_hold_app (tc_mv p c) o [(op, n)]).mp hh
  have el : (tc_em p (tc_tok (op, c, n)).1).length = (tc_mv p c).length + 1 := List.length_append
  have hw := hw ops args st hh (fun _ _ => ⟨rfl, rfl⟩) (fun _ _ => rfl)
  rw [el, ← Nat.add_assoc] at hl hw
  refine tc_mt_mv H hA.1 (by omega) ?_
  refine H.1 d _ ops args st (by omega) ?_ ?_ hw
  · rw [hA.2.1]; exact h2
  · rw [hA.2.1]; exact h3
theorem tc_mt_seq {lev : Int32} {dp : Nat} {a b : tc_Fr} (ha : tc_MT lev dp a) (hb : tc_MT lev dp b) : tc_MT lev dp (tc_seq a b) := by
  refine ⟨fun p o => ?_, ?_⟩
  · show (a.2 p o ++ b.2 _ _).length = (tc_em p (a.1 ++ b.1)).length
    rw [tc_em_app, List.length_append, List.length_append, ha.1, hb.1]
  intro len W H p o d ops args st hh hl hd hw
  have hh' : tc_hold ops args o (tc_em p a.1 ++ tc_em (tc_pl p a.1) b.1) := by rw [← tc_em_app]; exact hh
  have hA := (tc_hold_app _ _ _).mp hh'
  have el : (tc_em p (tc_seq a b).1).length = (tc_em p a.1).length + (tc_em (tc_pl p a.1) b.1).length := by
    show (tc_em p (a.1 ++ b.1)).length = _
    rw [tc_em_app, List.length_append]
  rw [el] at hl
  refine ha.2 len W H p o d ops args st hA.1 (by omega) hd ?_
  intro ops1 args1 st1 g1 g2 g3
  refine hb.2 len W H (tc_pl p a.1) _ d ops1 args1 st1 ?_ (by omega) hd ?_
  · exact tc_hold_congr _ _ (fun j h1 h2 => g2 j (Or.inr h1)) hA.2
  intro ops2 args2 st2 f1 f2 f3
  rw [Nat.add_assoc, ← el]
  refine hw ops2 args2 st2 ?_ ?_ ?_
  · show tc_hold ops2 args2 o (a.2 p o ++ b.2 (tc_pl p a.1) (o + (a.2 p o).length))
    rw [tc_hold_app]
    refine ⟨?_, ?_⟩
    · exact tc_hold_congr _ _ (fun j h1 h2 => f2 j (Or.inl (by rw [ha.1] at h2; exact h2))) g1
    · rw [ha.1]
      exact f1
  · intro j hj
    rw [el] at hj
    have q1 := f2 j (by omega)
    have q2 := g2 j (by omega)
    exact ⟨q1.1.trans q2.1, q1.2.trans q2.2⟩
  · intro j hj
    exact (f3 j hj).trans (g3 j hj)
theorem tc_mt_loop {lev : Int32} {dp : Nat} {fd : Bool} {c : Nat} {a : tc_Fr} (ha : tc_MT lev dp a) (h1 : lev = 1 → ∀ s, tc_cf 0 0 (tc_bd c a s) = fd) (h2 : lev ≠ 1 → fd = false) : tc_MT lev (dp + 1) (tc_loop fd c a) := by
  have ee : ∀ p, tc_em p (tc_loop fd c a).1 = tc_mv p c ++ (2, 0) :: (tc_em c a.1 ++ (tc_mv (tc_pl c a.1) c ++ [(3, 0)])) := by
    intro p
    show tc_mv p c ++ (2, 0) :: tc_em c (a.1 ++ [(3, c, 0)]) = _
    rw [tc_em_app]
    rfl
  have eb : ∀ s, (tc_bd c a s).length = (tc_em c a.1).length + (tc_mv (tc_pl c a.1) c).length := by
    intro s
    show (a.2 c (s + 1) ++ _).length = _
    rw [List.length_append, ha.1]
  have el : ∀ p, (tc_em p (tc_loop fd c a).1).length = (tc_mv p c).length + (1 + ((tc_em c a.1).length + (tc_mv (tc_pl c a.1) c).length) + 1) := by
    intro p
    rw [ee]
    simp only [List.length_append, List.length_cons, List.length_nil]
    omega
  refine ⟨fun p o => ?_, ?_⟩
  · rw [el]
    show (tc_mv p c ++ _ :: (tc_bd c a (o + (tc_mv p c).length) ++ [_])).length = _
    simp only [List.length_append, List.length_cons, List.length_nil, eb]
    omega
  intro len W H p o d ops args st hh hl hd hw
  rw [ee] at hh
  rw [el] at hl hw
  have q1 := (tc_hold_app _ _ _).mp hh
  have q2 := (tc_hold_app _ _ _).mp q1.2.2.2
  have q3 := (tc_hold_app _ _ _).mp q2.2
  have qo : ops (o + (tc_mv p c).length) = 2 := q1.2.1
  refine tc_mt_mv H q1.1 (by omega) ?_
  generalize hS : o + (tc_mv p c).length = s at *
  refine H.2.1 d s ops args st (by omega) qo (by omega) ?_
  refine ha.2 len W H c (s + 1) (d + 1) ops args _ q2.1 (by omega) (by omega) ?_
  intro ops1 args1 st1 g1 g2 g3
  have k1 : tc_hold ops1 args1 (s + 1 + (tc_em c a.1).length) (tc_mv (tc_pl c a.1) c) := tc_hold_congr _ _ (fun j h1 h2 => g2 j (Or.inr h1)) q3.1
  refine tc_mt_mv H k1 (by omega) ?_
  have kb : tc_hold ops1 args1 (s + 1) (tc_bd c a s) := by
    show tc_hold ops1 args1 (s + 1) (a.2 c (s + 1) ++ tc_mv (tc_pl c a.1) c)
    rw [tc_hold_app, ha.1]
    exact ⟨g1, k1⟩
  generalize hE : s + 1 + (tc_em c a.1).length + (tc_mv (tc_pl c a.1) c).length = e at *
  have he : e = s + 1 + (tc_bd c a s).length := by rw [eb, ← hE]; omega
  have oe : ops1 e = 3 := (g2 e (Or.inr (by omega))).1.trans q3.2.1
  have os : ops1 s = 2 := (g2 s (Or.inl (by omega))).1.trans qo
  have sd : st1 d = nI s := (g3 d (by omega)).trans pk_us
  refine H.2.2 d e ops1 args1 st1 s (tc_bd c a s) (by omega) oe (by omega) sd kb he ?_
  have hfin := hw (if lev = 1 ∧ tc_cf 0 0 (tc_bd c a s) = true then upd (upd ops1 s 5) e 6 else ops1) (upd (upd args1 s (nI e)) e (nI s)) st1 ?_ ?_ ?_
  · rw [show o + ((tc_mv p c).length + (1 + ((tc_em c a.1).length + (tc_mv (tc_pl c a.1) c).length) + 1)) = e + 1 from by omega] at hfin
    exact hfin
  · have cnd : (lev = 1 ∧ tc_cf 0 0 (tc_bd c a s) = true) ↔ fd = true := by
      by_cases hl1 : lev = 1
      · rw [h1 hl1 s]
        exact ⟨fun h => h.2, fun h => ⟨hl1, h⟩⟩
      · rw [h2 hl1]
        exact ⟨fun h => absurd h.1 hl1, fun h => by cases h⟩
    have out : ∀ j, j ≠ s → j ≠ e → (if lev = 1 ∧ tc_cf 0 0 (tc_bd c a s) = true then upd (upd ops1 s 5) e 6 else ops1) j = ops1 j ∧ upd (upd args1 s (nI e)) e (nI s) j = args1 j := by
      intro j hj1 hj2
      refine ⟨?_, by rw [pk_un hj2, pk_un hj1]⟩
      by_cases hc : lev = 1 ∧ tc_cf 0 0 (tc_bd c a s) = true
      · rw [if_pos hc, pk_un hj2, pk_un hj1]
      · rw [if_neg hc]
    show tc_hold _ _ o (tc_mv p c ++ _ :: (tc_bd c a (o + (tc_mv p c).length) ++ [_]))
    rw [tc_hold_app, hS]
    refine ⟨?_, ?_, ?_, ?_⟩
    · refine tc_hold_congr _ _ (fun j j1 j2 => ?_) q1.1
      have := out j (by omega) (by omega)
      have q := g2 j (Or.inl (by omega))
      exact ⟨this.1.trans q.1, this.2.trans q.2⟩
    · by_cases hc : lev = 1 ∧ tc_cf 0 0 (tc_bd c a s) = true
      · rw [if_pos hc, pk_un (by omega), pk_us, if_pos (cnd.mp hc)]
      · rw [if_neg hc, os, if_neg (fun h => hc (cnd.mpr h))]
    · rw [pk_un (by omega), pk_us, he]
    · rw [tc_hold_app, ← he]
      refine ⟨tc_hold_congr _ _ (fun j j1 j2 => out j (by omega) (by omega)) kb, ?_, ?_, trivial⟩
      · by_cases hc : lev = 1 ∧ tc_cf 0 0 (tc_bd c a s) = true
        · rw [if_pos hc, pk_us, if_pos (cnd.mp hc)]
        · rw [if_neg hc, oe, if_neg (fun h => hc (cnd.mpr h))]
      · rw [pk_us]
  · intro j hj
    have hjs : j ≠ s := by omega
    have hje : j ≠ e := by omega
    have q := g2 j (by omega)
    refine ⟨?_, by rw [pk_un hje, pk_un hjs]; exact q.2⟩
    by_cases hc : lev = 1 ∧ tc_cf 0 0 (tc_bd c a s) = true
    · rw [if_pos hc, pk_un hje, pk_un hjs]; exact q.1
    · rw [if_neg hc]; exact q.1
  · intro j hj
    exact (g3 j (by omega)).trans (pk_un (by omega))
/-- pieces that hold more than moves and adds -/
def tc_Nf (a : tc_Fr) : Prop := ∀ p o, ∃ x, x ∈ a.2 p o ∧ x.1 ≠ 0 ∧ x.1 ≠ 1
theorem tc_nf_l {a b : tc_Fr} (h : tc_Nf a) : tc_Nf (tc_seq a b) := fun p o => by
  obtain ⟨x, h1, h2⟩ := h p o
  exact ⟨x, List.mem_append_left _ h1, h2⟩
theorem tc_nf_r {a b : tc_Fr} (h : tc_Nf b) : tc_Nf (tc_seq a b) := fun p o => by
  obtain ⟨x, h1, h2⟩ := h (tc_pl p a.1) (o + (a.2 p o).length)
  exact ⟨x, List.mem_append_right _ h1, h2⟩
theorem tc_nf_loop (fd : Bool) (c : Nat) (a : tc_Fr) : tc_Nf (tc_loop fd c a) := fun p o => by
  refine ⟨_, List.mem_append_right _ (List.mem_cons_self), ?_, ?_⟩
  · show (if fd then (5 : Int32) else 2) ≠ 0
    cases fd
    · decide
    · decide
  · show (if fd then (5 : Int32) else 2) ≠ 1
    cases fd
    · decide
    · decide
theorem tc_mt_loopN {lev : Int32} {dp : Nat} {c : Nat} {a : tc_Fr} (ha : tc_MT lev dp a) (hn : tc_Nf a) : tc_MT lev (dp + 1) (tc_loop false c a) := by
  refine tc_mt_loop ha (fun _ s => tc_cf_no _ _ _ ?_) (fun _ => rfl)
  obtain ⟨x, h1, h2⟩ := hn c (s + 1)
  exact ⟨x, List.mem_append_left _ h1, h2⟩
end
section
/-! part 09: matching and folding of all that is written -/
theorem tc_cf_m (aw ow n : Int32) (L : List tc_Raw) : tc_cf aw ow ((0, n) :: L) = tc_cf (aw + n) ow L := if_pos rfl
theorem tc_cf_a0 (ow n : Int32) (L : List tc_Raw) : tc_cf 0 ow ((1, n) :: L) = tc_cf 0 (ow + n) L := by
  show (if (1 : Int32) = 0 then _ else if (1 : Int32) = 1 then (if (0 : Int32) = 0 then _ else _) else _) = _
  rw [if_neg (by decide), if_pos rfl, if_pos rfl]
theorem tc_cf_a1 {aw : Int32} (ow n : Int32) (L : List tc_Raw) (h : aw ≠ 0) : tc_cf aw ow ((1, n) :: L) = tc_cf aw ow L := by
  show (if (1 : Int32) = 0 then _ else if (1 : Int32) = 1 then (if aw = 0 then _ else _) else _) = _
  rw [if_neg (by decide), if_pos rfl, if_neg h]
theorem tc_cf_e {aw ow : Int32} (h1 : aw = 0) (h2 : ow = -1) : tc_cf aw ow [] = true := by
  subst h1 h2
  rfl
theorem tc_nIne {c d : Nat} (hc : c < 128) (hd : d < 128) (h : c ≠ d) : 0 + (nI d - nI c) ≠ 0 := by
  intro e
  have : nI d = nI c := by grind
  exact h ((nI_eq (by omega) (by omega)).mp this).symm
theorem tc_bd_clear (c s : Nat) : tc_bd c (tc_tok (1, c, -1)) s = [(1, -1)] := by
  show (tc_mv c c ++ [(1, -1)]) ++ tc_mv c c = [(1, -1)]
  rw [show tc_mv c c = [] from if_pos rfl]
  rfl
theorem tc_bd_pour {c d : Nat} (n : Int32) (s : Nat) (h : c ≠ d) : tc_bd c (tc_seq (tc_tok (1, c, -1)) (tc_tok (1, d, n))) s = [(1, -1), (0, nI d - nI c), (1, n), (0, nI c - nI d)] := by
  show ((tc_mv c c ++ [(1, -1)]) ++ (tc_mv c d ++ [(1, n)])) ++ tc_mv d c = _
  rw [show tc_mv c c = [] from if_pos rfl, show tc_mv c d = [(0, nI d - nI c)] from if_neg (Ne.symm h), show tc_mv d c = [(0, nI c - nI d)] from if_neg h]
  rfl
theorem tc_bd_pour2 {c d e : Nat} (s : Nat) (h1 : c ≠ d) (h2 : c ≠ e) (h3 : d ≠ e) : tc_bd c (tc_seq (tc_tok (1, c, -1)) (tc_seq (tc_tok (1, d, 1)) (tc_tok (1, e, 1)))) s = [(1, -1), (0, nI d - nI c), (1, 1), (0, nI e - nI d), (1, 1), (0, nI c - nI e)] := by
  show ((tc_mv c c ++ [(1, -1)]) ++ ((tc_mv c d ++ [(1, 1)]) ++ (tc_mv d e ++ [(1, 1)]))) ++ tc_mv e c = _
  rw [show tc_mv c c = [] from if_pos rfl, show tc_mv c d = [(0, nI d - nI c)] from if_neg (Ne.symm h1), show tc_mv d e = [(0, nI e - nI d)] from if_neg (Ne.symm h3), show tc_mv e c = [(0, nI c - nI e)] from if_neg h2]
  rfl
section
variable {lev : Int32} {lv : Bool} (hlv : lv = decide (lev = 1))
theorem tc_lv1 (hlv : lv = decide (lev = 1)) (e : lev = 1) : true = lv := by rw [hlv, decide_eq_true e]
theorem tc_lv0 (hlv : lv = decide (lev = 1)) (e : lev ≠ 1) : lv = false := by rw [hlv, decide_eq_false e]
theorem tc_mt_clear (hlv : lv = decide (lev = 1)) (c : Nat) : tc_MT lev 1 (tc_clear lv c) := by
  refine tc_mt_loop (dp := 0) (tc_mt_tok (by decide) (by decide)) (fun e s => ?_) (tc_lv0 hlv)
  rw [tc_bd_clear, tc_cf_a0, ← tc_lv1 hlv e]
  exact tc_cf_e rfl rfl
theorem tc_mt_pour (hlv : lv = decide (lev = 1)) {c d : Nat} (n : Int32) (hc : c < 128) (hd : d < 128) (h : c ≠ d) : tc_MT lev 1 (tc_pour lv c d n) := by
  refine tc_mt_loop (dp := 0) (tc_mt_seq (tc_mt_tok (by decide) (by decide)) (tc_mt_tok (by decide) (by decide))) (fun e s => ?_) (tc_lv0 hlv)
  rw [tc_bd_pour n s h, tc_cf_a0, tc_cf_m, tc_cf_a1 _ _ _ (tc_nIne hc hd h), tc_cf_m, ← tc_lv1 hlv e]
  exact tc_cf_e (by grind) rfl
theorem tc_mt_pour2 (hlv : lv = decide (lev = 1)) {c d e : Nat} (hc : c < 128) (hd : d < 128) (he : e < 128) (h1 : c ≠ d) (h2 : c ≠ e) (h3 : d ≠ e) : tc_MT lev 1 (tc_pour2 lv c d e) := by
  refine tc_mt_loop (dp := 0) (tc_mt_seq (tc_mt_tok (by decide) (by decide)) (tc_mt_seq (tc_mt_tok (by decide) (by decide)) (tc_mt_tok (by decide) (by decide)))) (fun el s => ?_) (tc_lv0 hlv)
  have n2 := tc_nIne hc he h2
  rw [tc_bd_pour2 s h1 h2 h3, tc_cf_a0, tc_cf_m, tc_cf_a1 _ _ _ (tc_nIne hc hd h1), tc_cf_m, tc_cf_a1 _ _ _ (by rw [show 0 + (nI d - nI c) + (nI e - nI d) = 0 + (nI e - nI c) from by grind]; exact n2), tc_cf_m, ← tc_lv1 hlv el]
  exact tc_cf_e (by grind) rfl
theorem tc_mt_addTo (hlv : lv = decide (lev = 1)) {c d : Nat} (hc : c < 128) (hd : d < 128) (h1 : c ≠ d) (h2 : c ≠ 6) (h3 : d ≠ 6) : tc_MT lev 1 (tc_addTo lv c d) :=
  tc_mt_seq (tc_mt_pour2 hlv hc hd (by omega) h1 h2 h3) (tc_mt_pour hlv 1 (by omega) hc (Ne.symm h2))
theorem tc_nf_addTo (c d : Nat) : tc_Nf (tc_addTo lv c d) := tc_nf_l (tc_nf_loop _ _ _)
theorem tc_nf_clear (c : Nat) : tc_Nf (tc_clear lv c) := tc_nf_loop _ _ _
theorem tc_mt_add {dp c : Nat} {n : Int32} : tc_MT lev dp (tc_tok (1, c, n)) := tc_mt_tok (by decide) (by decide)
theorem tc_mt_product (hlv : lv = decide (lev = 1)) {x y z : Nat} (hx : x < 6) (hy : y < 6) (hz : z < 6) : tc_MT lev 3 (tc_product lv x y z) :=
  tc_mt_le (dp := 2) (tc_mt_seq (tc_mt_le (tc_mt_addTo hlv (by omega) (by omega) (by omega) (by omega) (by omega)) (by omega)) (tc_mt_seq (tc_mt_le (tc_mt_addTo hlv (by omega) (by omega) (by omega) (by omega) (by omega)) (by omega)) (tc_mt_seq (tc_mt_le (tc_mt_clear hlv x) (by omega)) (tc_mt_seq
    (tc_mt_loopN (tc_mt_seq tc_mt_add (tc_mt_addTo hlv (by omega) (by omega) (by omega) (by omega) (by omega))) (tc_nf_r (tc_nf_addTo _ _)))
    (tc_mt_le (tc_mt_clear hlv 8) (by omega)))))) (by omega)
theorem tc_mt_less (hlv : lv = decide (lev = 1)) {x y z : Nat} (hx : x < 6) (hy : y < 6) (hz : z < 6) : tc_MT lev 3 (tc_less lv x y z) :=
  tc_mt_seq (tc_mt_le (tc_mt_addTo hlv (by omega) (by omega) (by omega) (by omega) (by omega)) (by omega)) (tc_mt_seq (tc_mt_le (tc_mt_addTo hlv (by omega) (by omega) (by omega) (by omega) (by omega)) (by omega)) (tc_mt_seq
    (tc_mt_loopN (dp := 2) (tc_mt_seq tc_mt_add (tc_mt_seq (tc_mt_le (tc_mt_addTo hlv (by omega) (by omega) (by omega) (by omega) (by omega)) (by omega)) (tc_mt_loopN (dp := 1) (tc_mt_seq tc_mt_add (tc_mt_clear hlv 10)) (tc_nf_r (tc_nf_clear _))))) (tc_nf_r (tc_nf_l (tc_nf_addTo _ _))))
    (tc_mt_seq (tc_mt_le (tc_mt_clear hlv x) (by omega)) (tc_mt_le (tc_mt_loopN (dp := 1) (tc_mt_seq tc_mt_add (tc_mt_clear hlv 8)) (tc_nf_r (tc_nf_clear _))) (by omega)))))
theorem tc_mt_equal (hlv : lv = decide (lev = 1)) {x y z : Nat} (hx : x < 6) (hy : y < 6) (hz : z < 6) : tc_MT lev 3 (tc_equal lv x y z) :=
  tc_mt_seq (tc_mt_le (tc_mt_addTo hlv (by omega) (by omega) (by omega) (by omega) (by omega)) (by omega)) (tc_mt_seq (tc_mt_le (tc_mt_addTo hlv (by omega) (by omega) (by omega) (by omega) (by omega)) (by omega)) (tc_mt_seq
    (tc_mt_le (tc_mt_pour hlv _ (by omega) (by omega) (by omega)) (by omega)) (tc_mt_seq (tc_mt_le (tc_mt_clear hlv x) (by omega)) (tc_mt_seq tc_mt_add (tc_mt_le (tc_mt_loopN (dp := 1) (tc_mt_seq tc_mt_add (tc_mt_clear hlv 7)) (tc_nf_r (tc_nf_clear _))) (by omega))))))
theorem tc_mt_quot (hlv : lv = decide (lev = 1)) {x y z : Nat} (hx : x < 6) (hy : y < 6) (hz : z < 6) : tc_MT lev 3 (tc_quot lv x y z) :=
  tc_mt_seq (tc_mt_le (tc_mt_addTo hlv (by omega) (by omega) (by omega) (by omega) (by omega)) (by omega)) (tc_mt_seq (tc_mt_le (tc_mt_addTo hlv (by omega) (by omega) (by omega) (by omega) (by omega)) (by omega)) (tc_mt_seq (tc_mt_le (tc_mt_addTo hlv (by omega) (by omega) (by omega) (by omega) (by omega)) (by omega)) (tc_mt_seq
    (tc_mt_loopN (dp := 2) (tc_mt_seq tc_mt_add (tc_mt_seq tc_mt_add (tc_mt_seq tc_mt_add (tc_mt_seq (tc_mt_le (tc_mt_addTo hlv (by omega) (by omega) (by omega) (by omega) (by omega)) (by omega))
      (tc_mt_seq (tc_mt_loopN (dp := 1) (tc_mt_seq tc_mt_add (tc_mt_clear hlv 11)) (tc_nf_r (tc_nf_clear _)))
        (tc_mt_loopN (dp := 1) (tc_mt_seq tc_mt_add (tc_mt_seq tc_mt_add (tc_mt_addTo hlv (by omega) (by omega) (by omega) (by omega) (by omega)))) (tc_nf_r (tc_nf_r (tc_nf_addTo _ _))))))))) (tc_nf_r (tc_nf_r (tc_nf_r (tc_nf_l (tc_nf_addTo _ _))))))
    (tc_mt_seq (tc_mt_le (tc_mt_clear hlv 8) (by omega)) (tc_mt_seq (tc_mt_le (tc_mt_clear hlv 9) (by omega)) (tc_mt_seq (tc_mt_le (tc_mt_clear hlv x) (by omega)) (tc_mt_le (tc_mt_pour hlv _ (by omega) (by omega) (by omega)) (by omega))))))))
theorem tc_mt_walkOut (hlv : lv = decide (lev = 1)) : tc_MT lev 3 (tc_walkOut lv) :=
  tc_mt_le (tc_mt_loopN (dp := 1) (tc_mt_seq tc_mt_add (tc_mt_seq (tc_mt_pour hlv _ (by omega) (by omega) (by omega)) (tc_mt_seq (tc_mt_pour hlv _ (by omega) (by omega) (by omega)) (tc_mt_seq tc_mt_add (tc_mt_tok (by decide) (by decide)))))) (tc_nf_r (tc_nf_l (tc_nf_loop _ _ _)))) (by omega)
theorem tc_mt_walkBack (hlv : lv = decide (lev = 1)) : tc_MT lev 3 (tc_walkBack lv) :=
  tc_mt_le (tc_mt_loopN (dp := 1) (tc_mt_seq tc_mt_add (tc_mt_seq (tc_mt_pour hlv _ (by omega) (by omega) (by omega)) (tc_mt_tok (by decide) (by decide)))) (tc_nf_r (tc_nf_l (tc_nf_loop _ _ _)))) (by omega)
theorem tc_mt_fetch (hlv : lv = decide (lev = 1)) {x y : Nat} (hx : x < 6) (hy : y < 6) : tc_MT lev 3 (tc_fetch lv x y) :=
  tc_mt_seq (tc_mt_le (tc_mt_addTo hlv (by omega) (by omega) (by omega) (by omega) (by omega)) (by omega)) (tc_mt_seq (tc_mt_walkOut hlv) (tc_mt_seq
    (tc_mt_le (tc_mt_seq (tc_mt_pour2 hlv (by omega) (by omega) (by omega) (by omega) (by omega) (by omega)) (tc_mt_pour hlv _ (by omega) (by omega) (by omega))) (by omega))
    (tc_mt_seq (tc_mt_walkBack hlv) (tc_mt_seq (tc_mt_le (tc_mt_clear hlv x) (by omega)) (tc_mt_le (tc_mt_pour hlv _ (by omega) (by omega) (by omega)) (by omega))))))
theorem tc_mt_store (hlv : lv = decide (lev = 1)) {x y : Nat} (hx : x < 6) (hy : y < 6) : tc_MT lev 3 (tc_store lv x y) :=
  tc_mt_seq (tc_mt_le (tc_mt_addTo hlv (by omega) (by omega) (by omega) (by omega) (by omega)) (by omega)) (tc_mt_seq (tc_mt_le (tc_mt_addTo hlv (by omega) (by omega) (by omega) (by omega) (by omega)) (by omega)) (tc_mt_seq (tc_mt_walkOut hlv) (tc_mt_seq (tc_mt_le (tc_mt_clear hlv 17) (by omega)) (tc_mt_seq (tc_mt_le (tc_mt_pour hlv _ (by omega) (by omega) (by omega)) (by omega)) (tc_mt_walkBack hlv)))))
theorem tc_mt_simple (hlv : lv = decide (lev = 1)) {k x y z : Nat} (hx : x < 6) (hy : k ≠ 0 → k ≠ 9 → y < 6) (hz : k = 4 ∨ k = 5 ∨ k = 6 ∨ 9 < k → z < 6) : tc_MT lev 3 (tc_simple lv k x y z) ∧ tc_Nf (tc_simple lv k x y z) := by
  unfold tc_simple
  by_cases k0 : k = 0
  · rw [if_pos k0]
    exact ⟨tc_mt_le (dp := 1) (tc_mt_seq (tc_mt_clear hlv x) tc_mt_add) (by omega), tc_nf_l (tc_nf_clear _)⟩
  rw [if_neg k0]
  by_cases k9 : k = 9
  · subst k9
    refine ⟨tc_mt_tok (by decide) (by decide), fun p o => ?_⟩
    exact ⟨_, List.mem_append_right _ (List.mem_cons_self), (by decide : (4 : Int32) ≠ 0), (by decide : (4 : Int32) ≠ 1)⟩
  have hy := hy k0 k9
  by_cases k1 : k = 1
  · rw [if_pos k1]
    exact ⟨tc_mt_le (dp := 1) (tc_mt_seq (tc_mt_addTo hlv (by omega) (by omega) (by omega) (by omega) (by omega)) (tc_mt_seq (tc_mt_clear hlv x) (tc_mt_pour hlv _ (by omega) (by omega) (by omega)))) (by omega), tc_nf_l (tc_nf_addTo _ _)⟩
  rw [if_neg k1]
  by_cases k2 : k = 2
  · rw [if_pos k2]
    exact ⟨tc_mt_le (dp := 1) (tc_mt_seq (tc_mt_addTo hlv (by omega) (by omega) (by omega) (by omega) (by omega)) (tc_mt_pour hlv _ (by omega) (by omega) (by omega))) (by omega), tc_nf_l (tc_nf_addTo _ _)⟩
  rw [if_neg k2]
  by_cases k3 : k = 3
  · rw [if_pos k3]
    exact ⟨tc_mt_le (dp := 1) (tc_mt_seq (tc_mt_addTo hlv (by omega) (by omega) (by omega) (by omega) (by omega)) (tc_mt_pour hlv _ (by omega) (by omega) (by omega))) (by omega), tc_nf_l (tc_nf_addTo _ _)⟩
  rw [if_neg k3]
  by_cases k4 : k = 4
  · rw [if_pos k4]
    exact ⟨tc_mt_product hlv hx hy (hz (by omega)), tc_nf_l (tc_nf_addTo _ _)⟩
  rw [if_neg k4]
  by_cases k5 : k = 5
  · rw [if_pos k5]
    exact ⟨tc_mt_less hlv hx hy (hz (by omega)), tc_nf_l (tc_nf_addTo _ _)⟩
  rw [if_neg k5]
  by_cases k6 : k = 6
  · rw [if_pos k6]
    exact ⟨tc_mt_equal hlv hx hy (hz (by omega)), tc_nf_l (tc_nf_addTo _ _)⟩
  rw [if_neg k6]
  by_cases k7 : k = 7
  · rw [if_pos k7]
    exact ⟨tc_mt_fetch hlv hx hy, tc_nf_l (tc_nf_addTo _ _)⟩
  rw [if_neg k7]
  by_cases k8 : k = 8
  · rw [if_pos k8]
    exact ⟨tc_mt_store hlv hx hy, tc_nf_l (tc_nf_addTo _ _)⟩
  rw [if_neg k8, if_neg k9]
  exact ⟨tc_mt_quot hlv hx hy (hz (by omega)), tc_nf_l (tc_nf_addTo _ _)⟩
theorem tc_mt_choose (hlv : lv = decide (lev = 1)) {x ns dp : Nat} {a b : tc_Fr} (hd : 1 ≤ dp) (hx : x < 6) (hns : ns ≤ 1) (ha : tc_MT lev dp a) (hb : tc_MT lev dp b) (nb : tc_Nf b) : tc_MT lev (dp + 1) (tc_choose lv x ns a b) :=
  tc_mt_seq (tc_mt_le (tc_mt_addTo hlv (by omega) (by omega) (by omega) (by omega) (by omega)) (by omega)) (tc_mt_seq tc_mt_add (tc_mt_seq (tc_mt_loopN (tc_mt_seq tc_mt_add (tc_mt_seq (tc_mt_le (tc_mt_clear hlv _) hd) ha)) (tc_nf_r (tc_nf_l (tc_nf_clear _)))) (tc_mt_loopN (tc_mt_seq tc_mt_add hb) (tc_nf_r nb))))
theorem tc_mt_repeat (hlv : lv = decide (lev = 1)) {x ns dp : Nat} {a : tc_Fr} (hd : 1 ≤ dp) (hx : x < 6) (hns : ns ≤ 1) (ha : tc_MT lev dp a) (na : tc_Nf a) : tc_MT lev (dp + 1) (tc_repeat lv x ns a) :=
  tc_mt_seq (tc_mt_le (tc_mt_addTo hlv (by omega) (by omega) (by omega) (by omega) (by omega)) (by omega)) (tc_mt_loopN (tc_mt_seq tc_mt_add ha) (tc_nf_r na))
theorem tc_mt_cd (hlv : lv = decide (lev = 1)) (K X Y Z Wt Nt : Nat → Nat) (n : Nat) (ok : ∀ s, s < n → tc_Ok K X Y Z Wt Nt s) : ∀ (f s ns : Nat), s < n → s < f → ns + Nt s ≤ 2 → tc_MT lev (3 + Nt s) (tc_cd K X Y Z lv f s ns) ∧ tc_Nf (tc_cd K X Y Z lv f s ns) := by
  intro f
  induction f with
  | zero => intro s ns h1 h2; omega
  | succ f ih =>
    intro s ns h1 h2 h3
    obtain ⟨o1, o2, o3, o4, o10, o11, o12, ox, oy0, oy, oz⟩ := ok s h1
    unfold tc_cd
    by_cases k10 : K s = 10
    · rw [if_pos k10]
      obtain ⟨q1, q2, q3, q4, q5⟩ := o10 k10
      have a1 := ih (X s) ns (by omega) (by omega) (by omega)
      have a2 := ih (Y s) ns (by omega) (by omega) (by omega)
      exact ⟨tc_mt_seq (tc_mt_le a1.1 (by omega)) (tc_mt_le a2.1 (by omega)), tc_nf_l a1.2⟩
    rw [if_neg k10]
    by_cases k11 : K s = 11
    · rw [if_pos k11]
      obtain ⟨q1, q2, q3, q4, q5⟩ := o11 k11
      have a1 := ih (Y s) (ns + 1) (by omega) (by omega) (by omega)
      have a2 := ih (Z s) (ns + 1) (by omega) (by omega) (by omega)
      exact ⟨tc_mt_le (dp := 3 + (Nt s - 1) + 1) (tc_mt_choose hlv (by omega) (ox k10) (by omega) (tc_mt_le a1.1 (by omega)) (tc_mt_le a2.1 (by omega)) a2.2) (by omega), tc_nf_l (tc_nf_addTo _ _)⟩
    rw [if_neg k11]
    by_cases k12 : K s = 12
    · rw [if_pos k12]
      obtain ⟨q1, q2, q3⟩ := o12 k12
      have a1 := ih (Y s) (ns + 1) (by omega) (by omega) (by omega)
      exact ⟨tc_mt_le (dp := 3 + (Nt s - 1) + 1) (tc_mt_repeat hlv (by omega) (ox k10) (by omega) (tc_mt_le a1.1 (by omega)) a1.2) (by omega), tc_nf_l (tc_nf_addTo _ _)⟩
    rw [if_neg k12]
    have := tc_mt_simple (z := Z s) hlv (ox k10) (fun e1 e2 => oy e1 e2 k10 k11 k12) (fun e => oz (by omega))
    exact ⟨tc_mt_le this.1 (by omega), this.2⟩
end
end
section
/-! part 10: what is written (made by wip/whole/gen10.py) -/
abbrev tc_C : Type := Int32 × Int32 × Int32 × (Nat → Int32) × (Nat → Int32) × (Nat → Int32) × (Nat → Int32) × (Nat → Int32) × (Nat → Int32) × (Nat → Int32) × (Nat → Int32) × (Nat → Int32)
/-- the code so far is that of the tokens T -/
def tc_Wr (C : tc_C) (post : SX → Prop) (T : List tc_Tok) (wt ns : Int32) (tasks : Nat → Int32) : Prop := ∀ ops args : Nat → Int32, tc_pl 0 T < 128 → tc_hold ops args 0 (tc_em 0 T) → post (C.1, C.2.1, C.2.2.1, nI (tc_em 0 (T)).length, nI (tc_pl 0 (T)), wt, ns, C.2.2.2.1, C.2.2.2.2.1, C.2.2.2.2.2.1, C.2.2.2.2.2.2.1, C.2.2.2.2.2.2.2.1, C.2.2.2.2.2.2.2.2.1, C.2.2.2.2.2.2.2.2.2.1, C.2.2.2.2.2.2.2.2.2.2.1, ops, args, tasks, C.2.2.2.2.2.2.2.2.2.2.2)
theorem tc_wr_cast {C : tc_C} {post : SX → Prop} {T T' : List tc_Tok} {wt ns : Int32} {tasks : Nat → Int32} (e : T = T') (hw : tc_Wr C post T' wt ns tasks) : tc_Wr C post T wt ns tasks := e ▸ hw
theorem tc_put {C : tc_C} {post : SX → Prop} {T T' : List tc_Tok} {wt ns : Int32} {tasks ops args : Nat → Int32} (op : Int32) (c : Nat) (n : Int32) (eT : T' = T ++ [(op, c, n)]) (hl : T.length + 1 ≤ 1000) (hc : c < 128) (hw : tc_Wr C post T' wt ns tasks) (hp : tc_pl 0 T < 128) (hh : tc_hold ops args 0 (tc_em 0 T)) : wpX_put post (C.1, C.2.1, C.2.2.1, nI (tc_em 0 (T)).length, nI (tc_pl 0 (T)), wt, ns, C.2.2.2.1, C.2.2.2.2.1, C.2.2.2.2.2.1, C.2.2.2.2.2.2.1, C.2.2.2.2.2.2.2.1, C.2.2.2.2.2.2.2.2.1, C.2.2.2.2.2.2.2.2.2.1, C.2.2.2.2.2.2.2.2.2.2.1, ops, args, tasks, C.2.2.2.2.2.2.2.2.2.2.2) op (nI c) n := by
  subst eT
  have hl2 := tc_em_len T 0
  have ee : tc_em 0 (T ++ [(op, c, n)]) = tc_em 0 T ++ (tc_mv (tc_pl 0 T) c ++ [(op, n)]) := tc_em_app T 0 [(op, c, n)]
  have ep : tc_pl 0 (T ++ [(op, c, n)]) = c := tc_pl_app T 0 [(op, c, n)]
  unfold tc_Wr at hw
  rw [ee, ep] at hw
  generalize tc_em 0 T = E at *
  generalize tc_pl 0 T = q at *
  have cl : (nI E.length).toNatClampNeg = E.length := nI_clamp (by omega)
  have h2 : nI E.length + 2 ≤ 2048 := by
    rw [show (2 : Int32) = nI 2 from rfl, nI_add]
    exact nI_le (b := 2048) (by omega) (by decide)
  unfold wpX_put
  refine br_t h2 ?_
  by_cases e : c = q
  · subst e
    rw [show tc_mv c c = [] from if_pos rfl] at hw
    refine br_t rfl ?_
    unfold wX_put_61
    refine ⟨vp_in_nI (by omega) (by omega), nm_e ⟨vp_in_nI (by omega) (by omega), nm_e (nm_e ?_)⟩⟩
    rw [cl]
    have := hw (upd ops E.length op) (upd args E.length n) hc ?_
    · rw [show (E ++ (([] : List tc_Raw) ++ [(op, n)])).length = E.length + 1 from by simp] at this
      rw [nI_1]
      exact this
    · rw [tc_hold_app]
      refine ⟨tc_hold_congr _ _ (fun j j1 j2 => ⟨pk_un (by omega), pk_un (by omega)⟩) hh, ?_⟩
      rw [Nat.zero_add]
      exact ⟨pk_us, pk_us, trivial⟩
  · have ne : ¬ nI c = nI q := fun h => e ((nI_eq (by omega) (by omega)).mp h)
    rw [show tc_mv q c = [(0, nI c - nI q)] from if_neg e] at hw
    refine br_f ne ?_
    refine ⟨vp_in_nI (by omega) (by omega), nm_e ⟨vp_in_nI (by omega) (by omega), nm_e (nm_e ?_)⟩⟩
    rw [cl, nI_1]
    have cl1 : (nI (E.length + 1)).toNatClampNeg = E.length + 1 := nI_clamp (by omega)
    unfold wX_put_61
    refine ⟨vp_in_nI (by omega) (by omega), nm_e ⟨vp_in_nI (by omega) (by omega), nm_e (nm_e ?_)⟩⟩
    rw [cl1]
    have := hw (upd (upd ops E.length 0) (E.length + 1) op) (upd (upd args E.length (nI c - nI q)) (E.length + 1) n) hc ?_
    · rw [show (E ++ ([((0, nI c - nI q) : tc_Raw)] ++ [(op, n)])).length = E.length + 1 + 1 from by simp] at this
      rw [nI_1]
      exact this
    · rw [tc_hold_app]
      refine ⟨tc_hold_congr _ _ (fun j j1 j2 => ⟨by rw [pk_un (by omega), pk_un (by omega)], by rw [pk_un (by omega), pk_un (by omega)]⟩) hh, ?_⟩
      rw [Nat.zero_add]
      exact ⟨by rw [pk_un (by omega), pk_us], by rw [pk_un (by omega), pk_us], pk_us, pk_us, trivial⟩
theorem tc_ln_clear (lv : Bool) (c : Nat) : (tc_clear lv c).1.length = 3 := rfl
theorem tc_ln_pour (lv : Bool) (c d : Nat) (n : Int32) : (tc_pour lv c d n).1.length = 4 := rfl
theorem tc_ln_addTo (lv : Bool) (c d : Nat) : (tc_addTo lv c d).1.length = 9 := rfl
theorem tc_ln_walkOut (lv : Bool) : (tc_walkOut lv ).1.length = 13 := rfl
theorem tc_ln_walkBack (lv : Bool) : (tc_walkBack lv ).1.length = 8 := rfl
theorem tc_ln_lift (lv : Bool) : (tc_lift lv ).1.length = 9 := rfl
theorem tc_eclear (T : List tc_Tok) (lv : Bool) (c : Nat) : T ++ [(2, c, 0)] ++ [(1, c, (-1))] ++ [(3, c, 0)] = T ++ (tc_clear lv c).1 := by
  simp only [tc_clear, tc_seq, tc_loop, tc_tok, List.append_assoc, List.cons_append, List.nil_append]
theorem tc_wclear {C : tc_C} {post : SX → Prop} {T T' : List tc_Tok} {wt ns : Int32} {tasks ops args : Nat → Int32} (lv : Bool) (c : Nat) (eT : T' = T ++ (tc_clear lv c).1) (hl : T.length + 3 ≤ 1000) (hc : c < 128) (hw : tc_Wr C post T' wt ns tasks) (hp : tc_pl 0 T < 128) (hh : tc_hold ops args 0 (tc_em 0 T)) : wpX_clear post (C.1, C.2.1, C.2.2.1, nI (tc_em 0 (T)).length, nI (tc_pl 0 (T)), wt, ns, C.2.2.2.1, C.2.2.2.2.1, C.2.2.2.2.2.1, C.2.2.2.2.2.2.1, C.2.2.2.2.2.2.2.1, C.2.2.2.2.2.2.2.2.1, C.2.2.2.2.2.2.2.2.2.1, C.2.2.2.2.2.2.2.2.2.2.1, ops, args, tasks, C.2.2.2.2.2.2.2.2.2.2.2) (nI c) := by
  subst eT
  have bb_c : c < 128 := by omega
  obtain ⟨T1, e1⟩ : ∃ S : List tc_Tok, S = T ++ [(2, c, 0)] := ⟨_, rfl⟩
  have m1 : T1.length = T.length + 1 := by rw [e1, List.length_append]; rfl
  have l0 : T.length + 1 ≤ 1000 := by omega
  obtain ⟨T2, e2⟩ : ∃ S : List tc_Tok, S = T1 ++ [(1, c, (-1))] := ⟨_, rfl⟩
  have m2 : T2.length = T1.length + 1 := by rw [e2, List.length_append]; rfl
  have l1 : T1.length + 1 ≤ 1000 := by omega
  obtain ⟨T3, e3⟩ : ∃ S : List tc_Tok, S = T2 ++ [(3, c, 0)] := ⟨_, rfl⟩
  have m3 : T3.length = T2.length + 1 := by rw [e3, List.length_append]; rfl
  have l2 : T2.length + 1 ≤ 1000 := by omega
  have en : T3 = T ++ (tc_clear lv c).1 := by rw [e3, e2, e1]; exact tc_eclear T lv c
  have hwn : tc_Wr C post T3 wt ns tasks := tc_wr_cast en hw
  have p0 := hp
  have h0 := hh
  delta wpX_clear
  refine tc_put 2 c 0 e1 l0 bb_c (fun o1 a1 p1 h1 => ?_) p0 h0
  refine tc_put 1 c (-1) e2 l1 bb_c (fun o2 a2 p2 h2 => ?_) p1 h1
  refine tc_put 3 c 0 e3 l2 bb_c (fun o3 a3 p3 h3 => ?_) p2 h2
  exact hwn o3 a3 p3 h3
theorem tc_epour (T : List tc_Tok) (lv : Bool) (c d : Nat) (n : Int32) : T ++ [(2, c, 0)] ++ [(1, c, (-1))] ++ [(1, d, n)] ++ [(3, c, 0)] = T ++ (tc_pour lv c d n).1 := by
  simp only [tc_pour, tc_seq, tc_loop, tc_tok, List.append_assoc, List.cons_append, List.nil_append]
theorem tc_wpour {C : tc_C} {post : SX → Prop} {T T' : List tc_Tok} {wt ns : Int32} {tasks ops args : Nat → Int32} (lv : Bool) (c d : Nat) (n : Int32) (eT : T' = T ++ (tc_pour lv c d n).1) (hl : T.length + 4 ≤ 1000) (hc : c < 128) (hd : d < 128) (hw : tc_Wr C post T' wt ns tasks) (hp : tc_pl 0 T < 128) (hh : tc_hold ops args 0 (tc_em 0 T)) : wpX_pour post (C.1, C.2.1, C.2.2.1, nI (tc_em 0 (T)).length, nI (tc_pl 0 (T)), wt, ns, C.2.2.2.1, C.2.2.2.2.1, C.2.2.2.2.2.1, C.2.2.2.2.2.2.1, C.2.2.2.2.2.2.2.1, C.2.2.2.2.2.2.2.2.1, C.2.2.2.2.2.2.2.2.2.1, C.2.2.2.2.2.2.2.2.2.2.1, ops, args, tasks, C.2.2.2.2.2.2.2.2.2.2.2) (nI c) (nI d) n := by
  subst eT
  have bb_c : c < 128 := by omega
  have bb_d : d < 128 := by omega
  obtain ⟨T1, e1⟩ : ∃ S : List tc_Tok, S = T ++ [(2, c, 0)] := ⟨_, rfl⟩
  have m1 : T1.length = T.length + 1 := by rw [e1, List.length_append]; rfl
  have l0 : T.length + 1 ≤ 1000 := by omega
  obtain ⟨T2, e2⟩ : ∃ S : List tc_Tok, S = T1 ++ [(1, c, (-1))] := ⟨_, rfl⟩
  have m2 : T2.length = T1.length + 1 := by rw [e2, List.length_append]; rfl
  have l1 : T1.length + 1 ≤ 1000 := by omega
  obtain ⟨T3, e3⟩ : ∃ S : List tc_Tok, S = T2 ++ [(1, d, n)] := ⟨_, rfl⟩
  have m3 : T3.length = T2.length + 1 := by rw [e3, List.length_append]; rfl
  have l2 : T2.length + 1 ≤ 1000 := by omega
  obtain ⟨T4, e4⟩ : ∃ S : List tc_Tok, S = T3 ++ [(3, c, 0)] := ⟨_, rfl⟩
  have m4 : T4.length = T3.length + 1 := by rw [e4, List.length_append]; rfl
  have l3 : T3.length + 1 ≤ 1000 := by omega
  have en : T4 = T ++ (tc_pour lv c d n).1 := by rw [e4, e3, e2, e1]; exact tc_epour T lv c d n
  have hwn : tc_Wr C post T4 wt ns tasks := tc_wr_cast en hw
  have p0 := hp
  have h0 := hh
  delta wpX_pour
  refine tc_put 2 c 0 e1 l0 bb_c (fun o1 a1 p1 h1 => ?_) p0 h0
  refine tc_put 1 c (-1) e2 l1 bb_c (fun o2 a2 p2 h2 => ?_) p1 h1
  refine tc_put 1 d n e3 l2 bb_d (fun o3 a3 p3 h3 => ?_) p2 h2
  refine tc_put 3 c 0 e4 l3 bb_c (fun o4 a4 p4 h4 => ?_) p3 h3
  exact hwn o4 a4 p4 h4
theorem tc_eaddTo (T : List tc_Tok) (lv : Bool) (c d : Nat) : T ++ [(2, c, 0)] ++ [(1, c, (-1))] ++ [(1, d, 1)] ++ [(1, 6, 1)] ++ [(3, c, 0)] ++ [(2, 6, 0)] ++ [(1, 6, (-1))] ++ [(1, c, 1)] ++ [(3, 6, 0)] = T ++ (tc_addTo lv c d).1 := by
  simp only [tc_addTo, tc_pour2, tc_pour, tc_clear, tc_seq, tc_loop, tc_tok, List.append_assoc, List.cons_append, List.nil_append]
theorem tc_waddTo {C : tc_C} {post : SX → Prop} {T T' : List tc_Tok} {wt ns : Int32} {tasks ops args : Nat → Int32} (lv : Bool) (c d : Nat) (eT : T' = T ++ (tc_addTo lv c d).1) (hl : T.length + 9 ≤ 1000) (hc : c < 128) (hd : d < 128) (hw : tc_Wr C post T' wt ns tasks) (hp : tc_pl 0 T < 128) (hh : tc_hold ops args 0 (tc_em 0 T)) : wpX_addTo post (C.1, C.2.1, C.2.2.1, nI (tc_em 0 (T)).length, nI (tc_pl 0 (T)), wt, ns, C.2.2.2.1, C.2.2.2.2.1, C.2.2.2.2.2.1, C.2.2.2.2.2.2.1, C.2.2.2.2.2.2.2.1, C.2.2.2.2.2.2.2.2.1, C.2.2.2.2.2.2.2.2.2.1, C.2.2.2.2.2.2.2.2.2.2.1, ops, args, tasks, C.2.2.2.2.2.2.2.2.2.2.2) (nI c) (nI d) := by
  subst eT
  have bb_6 : 6 < 128 := by omega
  have bb_c : c < 128 := by omega
  have bb_d : d < 128 := by omega
  obtain ⟨T1, e1⟩ : ∃ S : List tc_Tok, S = T ++ [(2, c, 0)] := ⟨_, rfl⟩
  have m1 : T1.length = T.length + 1 := by rw [e1, List.length_append]; rfl
  have l0 : T.length + 1 ≤ 1000 := by omega
  obtain ⟨T2, e2⟩ : ∃ S : List tc_Tok, S = T1 ++ [(1, c, (-1))] := ⟨_, rfl⟩
  have m2 : T2.length = T1.length + 1 := by rw [e2, List.length_append]; rfl
  have l1 : T1.length + 1 ≤ 1000 := by omega
  obtain ⟨T3, e3⟩ : ∃ S : List tc_Tok, S = T2 ++ [(1, d, 1)] := ⟨_, rfl⟩
  have m3 : T3.length = T2.length + 1 := by rw [e3, List.length_append]; rfl
  have l2 : T2.length + 1 ≤ 1000 := by omega
  obtain ⟨T4, e4⟩ : ∃ S : List tc_Tok, S = T3 ++ [(1, 6, 1)] := ⟨_, rfl⟩
  have m4 : T4.length = T3.length + 1 := by rw [e4, List.length_append]; rfl
  have l3 : T3.length + 1 ≤ 1000 := by omega
  obtain ⟨T5, e5⟩ : ∃ S : List tc_Tok, S = T4 ++ [(3, c, 0)] := ⟨_, rfl⟩
  have m5 : T5.length = T4.length + 1 := by rw [e5, List.length_append]; rfl
  have l4 : T4.length + 1 ≤ 1000 := by omega
  obtain ⟨T6, e6⟩ : ∃ S : List tc_Tok, S = T5 ++ [(2, 6, 0)] := ⟨_, rfl⟩
  have m6 : T6.length = T5.length + 1 := by rw [e6, List.length_append]; rfl
  have l5 : T5.length + 1 ≤ 1000 := by omega
  obtain ⟨T7, e7⟩ : ∃ S : List tc_Tok, S = T6 ++ [(1, 6, (-1))] := ⟨_, rfl⟩
  have m7 : T7.length = T6.length + 1 := by rw [e7, List.length_append]; rfl
  have l6 : T6.length + 1 ≤ 1000 := by omega
  obtain ⟨T8, e8⟩ : ∃ S : List tc_Tok, S = T7 ++ [(1, c, 1)] := ⟨_, rfl⟩
  have m8 : T8.length = T7.length + 1 := by rw [e8, List.length_append]; rfl
  have l7 : T7.length + 1 ≤ 1000 := by omega
  obtain ⟨T9, e9⟩ : ∃ S : List tc_Tok, S = T8 ++ [(3, 6, 0)] := ⟨_, rfl⟩
  have m9 : T9.length = T8.length + 1 := by rw [e9, List.length_append]; rfl
  have l8 : T8.length + 1 ≤ 1000 := by omega
  have en : T9 = T ++ (tc_addTo lv c d).1 := by rw [e9, e8, e7, e6, e5, e4, e3, e2, e1]; exact tc_eaddTo T lv c d
  have hwn : tc_Wr C post T9 wt ns tasks := tc_wr_cast en hw
  have p0 := hp
  have h0 := hh
  delta wpX_addTo
  refine tc_put 2 c 0 e1 l0 bb_c (fun o1 a1 p1 h1 => ?_) p0 h0
  refine tc_put 1 c (-1) e2 l1 bb_c (fun o2 a2 p2 h2 => ?_) p1 h1
  refine tc_put 1 d 1 e3 l2 bb_d (fun o3 a3 p3 h3 => ?_) p2 h2
  refine tc_put 1 6 1 e4 l3 bb_6 (fun o4 a4 p4 h4 => ?_) p3 h3
  refine tc_put 3 c 0 e5 l4 bb_c (fun o5 a5 p5 h5 => ?_) p4 h4
  refine tc_put 2 6 0 e6 l5 bb_6 (fun o6 a6 p6 h6 => ?_) p5 h5
  refine tc_put 1 6 (-1) e7 l6 bb_6 (fun o7 a7 p7 h7 => ?_) p6 h6
  refine tc_put 1 c 1 e8 l7 bb_c (fun o8 a8 p8 h8 => ?_) p7 h7
  refine tc_put 3 6 0 e9 l8 bb_6 (fun o9 a9 p9 h9 => ?_) p8 h8
  exact hwn o9 a9 p9 h9
theorem tc_ewalkOut (T : List tc_Tok) (lv : Bool)  : T ++ [(2, 18, 0)] ++ [(1, 18, (-1))] ++ (tc_pour lv 18 22 1).1 ++ (tc_pour lv 19 23 1).1 ++ [(1, 24, 1)] ++ [(0, 18, 4)] ++ [(3, 18, 0)] = T ++ (tc_walkOut lv).1 := by
  simp only [tc_walkOut, tc_seq, tc_loop, tc_tok, List.append_assoc, List.cons_append, List.nil_append]
theorem tc_wwalkOut {C : tc_C} {post : SX → Prop} {T T' : List tc_Tok} {wt ns : Int32} {tasks ops args : Nat → Int32} (lv : Bool)  (eT : T' = T ++ (tc_walkOut lv).1) (hl : T.length + 13 ≤ 1000)  (hw : tc_Wr C post T' wt ns tasks) (hp : tc_pl 0 T < 128) (hh : tc_hold ops args 0 (tc_em 0 T)) : wpX_walkOut post (C.1, C.2.1, C.2.2.1, nI (tc_em 0 (T)).length, nI (tc_pl 0 (T)), wt, ns, C.2.2.2.1, C.2.2.2.2.1, C.2.2.2.2.2.1, C.2.2.2.2.2.2.1, C.2.2.2.2.2.2.2.1, C.2.2.2.2.2.2.2.2.1, C.2.2.2.2.2.2.2.2.2.1, C.2.2.2.2.2.2.2.2.2.2.1, ops, args, tasks, C.2.2.2.2.2.2.2.2.2.2.2)  := by
  subst eT
  have bb_18 : 18 < 128 := by omega
  have bb_19 : 19 < 128 := by omega
  have bb_22 : 22 < 128 := by omega
  have bb_23 : 23 < 128 := by omega
  have bb_24 : 24 < 128 := by omega
  obtain ⟨T1, e1⟩ : ∃ S : List tc_Tok, S = T ++ [(2, 18, 0)] := ⟨_, rfl⟩
  have m1 : T1.length = T.length + 1 := by rw [e1, List.length_append]; rfl
  have l0 : T.length + 1 ≤ 1000 := by omega
  obtain ⟨T2, e2⟩ : ∃ S : List tc_Tok, S = T1 ++ [(1, 18, (-1))] := ⟨_, rfl⟩
  have m2 : T2.length = T1.length + 1 := by rw [e2, List.length_append]; rfl
  have l1 : T1.length + 1 ≤ 1000 := by omega
  obtain ⟨T3, e3⟩ : ∃ S : List tc_Tok, S = T2 ++ (tc_pour lv 18 22 1).1 := ⟨_, rfl⟩
  have m3 : T3.length = T2.length + 4 := by rw [e3, List.length_append]; rfl
  have l2 : T2.length + 4 ≤ 1000 := by omega
  obtain ⟨T4, e4⟩ : ∃ S : List tc_Tok, S = T3 ++ (tc_pour lv 19 23 1).1 := ⟨_, rfl⟩
  have m4 : T4.length = T3.length + 4 := by rw [e4, List.length_append]; rfl
  have l3 : T3.length + 4 ≤ 1000 := by omega
  obtain ⟨T5, e5⟩ : ∃ S : List tc_Tok, S = T4 ++ [(1, 24, 1)] := ⟨_, rfl⟩
  have m5 : T5.length = T4.length + 1 := by rw [e5, List.length_append]; rfl
  have l4 : T4.length + 1 ≤ 1000 := by omega
  obtain ⟨T6, e6⟩ : ∃ S : List tc_Tok, S = T5 ++ [(0, 18, 4)] := ⟨_, rfl⟩
  have m6 : T6.length = T5.length + 1 := by rw [e6, List.length_append]; rfl
  have l5 : T5.length + 1 ≤ 1000 := by omega
  obtain ⟨T7, e7⟩ : ∃ S : List tc_Tok, S = T6 ++ [(3, 18, 0)] := ⟨_, rfl⟩
  have m7 : T7.length = T6.length + 1 := by rw [e7, List.length_append]; rfl
  have l6 : T6.length + 1 ≤ 1000 := by omega
  have en : T7 = T ++ (tc_walkOut lv).1 := by rw [e7, e6, e5, e4, e3, e2, e1]; exact tc_ewalkOut T lv 
  have hwn : tc_Wr C post T7 wt ns tasks := tc_wr_cast en hw
  have p0 := hp
  have h0 := hh
  delta wpX_walkOut
  refine tc_put 2 18 0 e1 l0 bb_18 (fun o1 a1 p1 h1 => ?_) p0 h0
  refine tc_put 1 18 (-1) e2 l1 bb_18 (fun o2 a2 p2 h2 => ?_) p1 h1
  refine tc_wpour lv 18 22 1 e3 l2 bb_18 bb_22 (fun o3 a3 p3 h3 => ?_) p2 h2
  refine tc_wpour lv 19 23 1 e4 l3 bb_19 bb_23 (fun o4 a4 p4 h4 => ?_) p3 h3
  refine tc_put 1 24 1 e5 l4 bb_24 (fun o5 a5 p5 h5 => ?_) p4 h4
  refine tc_put 0 18 4 e6 l5 bb_18 (fun o6 a6 p6 h6 => ?_) p5 h5
  refine tc_put 3 18 0 e7 l6 bb_18 (fun o7 a7 p7 h7 => ?_) p6 h6
  exact hwn o7 a7 p7 h7
theorem tc_ewalkBack (T : List tc_Tok) (lv : Bool)  : T ++ [(2, 20, 0)] ++ [(1, 20, (-1))] ++ (tc_pour lv 19 15 1).1 ++ [(0, 20, (-4))] ++ [(3, 20, 0)] = T ++ (tc_walkBack lv).1 := by
  simp only [tc_walkBack, tc_seq, tc_loop, tc_tok, List.append_assoc, List.cons_append, List.nil_append]
theorem tc_wwalkBack {C : tc_C} {post : SX → Prop} {T T' : List tc_Tok} {wt ns : Int32} {tasks ops args : Nat → Int32} (lv : Bool)  (eT : T' = T ++ (tc_walkBack lv).1) (hl : T.length + 8 ≤ 1000)  (hw : tc_Wr C post T' wt ns tasks) (hp : tc_pl 0 T < 128) (hh : tc_hold ops args 0 (tc_em 0 T)) : wpX_walkBack post (C.1, C.2.1, C.2.2.1, nI (tc_em 0 (T)).length, nI (tc_pl 0 (T)), wt, ns, C.2.2.2.1, C.2.2.2.2.1, C.2.2.2.2.2.1, C.2.2.2.2.2.2.1, C.2.2.2.2.2.2.2.1, C.2.2.2.2.2.2.2.2.1, C.2.2.2.2.2.2.2.2.2.1, C.2.2.2.2.2.2.2.2.2.2.1, ops, args, tasks, C.2.2.2.2.2.2.2.2.2.2.2)  := by
  subst eT
  have bb_15 : 15 < 128 := by omega
  have bb_19 : 19 < 128 := by omega
  have bb_20 : 20 < 128 := by omega
  obtain ⟨T1, e1⟩ : ∃ S : List tc_Tok, S = T ++ [(2, 20, 0)] := ⟨_, rfl⟩
  have m1 : T1.length = T.length + 1 := by rw [e1, List.length_append]; rfl
  have l0 : T.length + 1 ≤ 1000 := by omega
  obtain ⟨T2, e2⟩ : ∃ S : List tc_Tok, S = T1 ++ [(1, 20, (-1))] := ⟨_, rfl⟩
  have m2 : T2.length = T1.length + 1 := by rw [e2, List.length_append]; rfl
  have l1 : T1.length + 1 ≤ 1000 := by omega
  obtain ⟨T3, e3⟩ : ∃ S : List tc_Tok, S = T2 ++ (tc_pour lv 19 15 1).1 := ⟨_, rfl⟩
  have m3 : T3.length = T2.length + 4 := by rw [e3, List.length_append]; rfl
  have l2 : T2.length + 4 ≤ 1000 := by omega
  obtain ⟨T4, e4⟩ : ∃ S : List tc_Tok, S = T3 ++ [(0, 20, (-4))] := ⟨_, rfl⟩
  have m4 : T4.length = T3.length + 1 := by rw [e4, List.length_append]; rfl
  have l3 : T3.length + 1 ≤ 1000 := by omega
  obtain ⟨T5, e5⟩ : ∃ S : List tc_Tok, S = T4 ++ [(3, 20, 0)] := ⟨_, rfl⟩
  have m5 : T5.length = T4.length + 1 := by rw [e5, List.length_append]; rfl
  have l4 : T4.length + 1 ≤ 1000 := by omega
  have en : T5 = T ++ (tc_walkBack lv).1 := by rw [e5, e4, e3, e2, e1]; exact tc_ewalkBack T lv 
  have hwn : tc_Wr C post T5 wt ns tasks := tc_wr_cast en hw
  have p0 := hp
  have h0 := hh
  delta wpX_walkBack
  refine tc_put 2 20 0 e1 l0 bb_20 (fun o1 a1 p1 h1 => ?_) p0 h0
  refine tc_put 1 20 (-1) e2 l1 bb_20 (fun o2 a2 p2 h2 => ?_) p1 h1
  refine tc_wpour lv 19 15 1 e3 l2 bb_19 bb_15 (fun o3 a3 p3 h3 => ?_) p2 h2
  refine tc_put 0 20 (-4) e4 l3 bb_20 (fun o4 a4 p4 h4 => ?_) p3 h3
  refine tc_put 3 20 0 e5 l4 bb_20 (fun o5 a5 p5 h5 => ?_) p4 h4
  exact hwn o5 a5 p5 h5
theorem tc_elift (T : List tc_Tok) (lv : Bool)  : T ++ [(2, 17, 0)] ++ [(1, 17, (-1))] ++ [(1, 18, 1)] ++ [(1, 19, 1)] ++ [(3, 17, 0)] ++ (tc_pour lv 18 17 1).1 = T ++ (tc_lift lv).1 := by
  simp only [tc_lift, tc_pour2, tc_seq, tc_loop, tc_tok, List.append_assoc, List.cons_append, List.nil_append]
theorem tc_wlift {C : tc_C} {post : SX → Prop} {T T' : List tc_Tok} {wt ns : Int32} {tasks ops args : Nat → Int32} (lv : Bool)  (eT : T' = T ++ (tc_lift lv).1) (hl : T.length + 9 ≤ 1000)  (hw : tc_Wr C post T' wt ns tasks) (hp : tc_pl 0 T < 128) (hh : tc_hold ops args 0 (tc_em 0 T)) : wpX_liftElement post (C.1, C.2.1, C.2.2.1, nI (tc_em 0 (T)).length, nI (tc_pl 0 (T)), wt, ns, C.2.2.2.1, C.2.2.2.2.1, C.2.2.2.2.2.1, C.2.2.2.2.2.2.1, C.2.2.2.2.2.2.2.1, C.2.2.2.2.2.2.2.2.1, C.2.2.2.2.2.2.2.2.2.1, C.2.2.2.2.2.2.2.2.2.2.1, ops, args, tasks, C.2.2.2.2.2.2.2.2.2.2.2)  := by
  subst eT
  have bb_17 : 17 < 128 := by omega
  have bb_18 : 18 < 128 := by omega
  have bb_19 : 19 < 128 := by omega
  obtain ⟨T1, e1⟩ : ∃ S : List tc_Tok, S = T ++ [(2, 17, 0)] := ⟨_, rfl⟩
  have m1 : T1.length = T.length + 1 := by rw [e1, List.length_append]; rfl
  have l0 : T.length + 1 ≤ 1000 := by omega
  obtain ⟨T2, e2⟩ : ∃ S : List tc_Tok, S = T1 ++ [(1, 17, (-1))] := ⟨_, rfl⟩
  have m2 : T2.length = T1.length + 1 := by rw [e2, List.length_append]; rfl
  have l1 : T1.length + 1 ≤ 1000 := by omega
  obtain ⟨T3, e3⟩ : ∃ S : List tc_Tok, S = T2 ++ [(1, 18, 1)] := ⟨_, rfl⟩
  have m3 : T3.length = T2.length + 1 := by rw [e3, List.length_append]; rfl
  have l2 : T2.length + 1 ≤ 1000 := by omega
  obtain ⟨T4, e4⟩ : ∃ S : List tc_Tok, S = T3 ++ [(1, 19, 1)] := ⟨_, rfl⟩
  have m4 : T4.length = T3.length + 1 := by rw [e4, List.length_append]; rfl
  have l3 : T3.length + 1 ≤ 1000 := by omega
  obtain ⟨T5, e5⟩ : ∃ S : List tc_Tok, S = T4 ++ [(3, 17, 0)] := ⟨_, rfl⟩
  have m5 : T5.length = T4.length + 1 := by rw [e5, List.length_append]; rfl
  have l4 : T4.length + 1 ≤ 1000 := by omega
  obtain ⟨T6, e6⟩ : ∃ S : List tc_Tok, S = T5 ++ (tc_pour lv 18 17 1).1 := ⟨_, rfl⟩
  have m6 : T6.length = T5.length + 4 := by rw [e6, List.length_append]; rfl
  have l5 : T5.length + 4 ≤ 1000 := by omega
  have en : T6 = T ++ (tc_lift lv).1 := by rw [e6, e5, e4, e3, e2, e1]; exact tc_elift T lv 
  have hwn : tc_Wr C post T6 wt ns tasks := tc_wr_cast en hw
  have p0 := hp
  have h0 := hh
  delta wpX_liftElement
  refine tc_put 2 17 0 e1 l0 bb_17 (fun o1 a1 p1 h1 => ?_) p0 h0
  refine tc_put 1 17 (-1) e2 l1 bb_17 (fun o2 a2 p2 h2 => ?_) p1 h1
  refine tc_put 1 18 1 e3 l2 bb_18 (fun o3 a3 p3 h3 => ?_) p2 h2
  refine tc_put 1 19 1 e4 l3 bb_19 (fun o4 a4 p4 h4 => ?_) p3 h3
  refine tc_put 3 17 0 e5 l4 bb_17 (fun o5 a5 p5 h5 => ?_) p4 h4
  refine tc_wpour lv 18 17 1 e6 l5 bb_18 bb_17 (fun o6 a6 p6 h6 => ?_) p5 h5
  exact hwn o6 a6 p6 h6
theorem tc_eproduct (T : List tc_Tok) (lv : Bool) (x y z : Nat) : T ++ (tc_addTo lv y 7).1 ++ (tc_addTo lv z 8).1 ++ (tc_clear lv x).1 ++ [(2, 7, 0)] ++ [(1, 7, (-1))] ++ (tc_addTo lv 8 x).1 ++ [(3, 7, 0)] ++ (tc_clear lv 8).1 = T ++ (tc_product lv x y z).1 := by
  simp only [tc_product, tc_seq, tc_loop, tc_tok, List.append_assoc, List.cons_append, List.nil_append]
theorem tc_wproduct {C : tc_C} {post : SX → Prop} {T T' : List tc_Tok} {wt ns : Int32} {tasks ops args : Nat → Int32} (lv : Bool) (x y z : Nat) (eT : T' = T ++ (tc_product lv x y z).1) (hl : T.length + 100 ≤ 1000) (hx : x < 6) (hy : y < 6) (hz : z < 6) (hw : tc_Wr C post T' wt ns tasks) (hp : tc_pl 0 T < 128) (hh : tc_hold ops args 0 (tc_em 0 T)) : wpX_writeProduct post (C.1, C.2.1, C.2.2.1, nI (tc_em 0 (T)).length, nI (tc_pl 0 (T)), wt, ns, C.2.2.2.1, C.2.2.2.2.1, C.2.2.2.2.2.1, C.2.2.2.2.2.2.1, C.2.2.2.2.2.2.2.1, C.2.2.2.2.2.2.2.2.1, C.2.2.2.2.2.2.2.2.2.1, C.2.2.2.2.2.2.2.2.2.2.1, ops, args, tasks, C.2.2.2.2.2.2.2.2.2.2.2) (nI x) (nI y) (nI z) := by
  subst eT
  have bb_7 : 7 < 128 := by omega
  have bb_8 : 8 < 128 := by omega
  have bb_x : x < 128 := by omega
  have bb_y : y < 128 := by omega
  have bb_z : z < 128 := by omega
  obtain ⟨T1, e1⟩ : ∃ S : List tc_Tok, S = T ++ (tc_addTo lv y 7).1 := ⟨_, rfl⟩
  have m1 : T1.length = T.length + 9 := by rw [e1, List.length_append]; rfl
  have l0 : T.length + 9 ≤ 1000 := by omega
  obtain ⟨T2, e2⟩ : ∃ S : List tc_Tok, S = T1 ++ (tc_addTo lv z 8).1 := ⟨_, rfl⟩
  have m2 : T2.length = T1.length + 9 := by rw [e2, List.length_append]; rfl
  have l1 : T1.length + 9 ≤ 1000 := by omega
  obtain ⟨T3, e3⟩ : ∃ S : List tc_Tok, S = T2 ++ (tc_clear lv x).1 := ⟨_, rfl⟩
  have m3 : T3.length = T2.length + 3 := by rw [e3, List.length_append]; rfl
  have l2 : T2.length + 3 ≤ 1000 := by omega
  obtain ⟨T4, e4⟩ : ∃ S : List tc_Tok, S = T3 ++ [(2, 7, 0)] := ⟨_, rfl⟩
  have m4 : T4.length = T3.length + 1 := by rw [e4, List.length_append]; rfl
  have l3 : T3.length + 1 ≤ 1000 := by omega
  obtain ⟨T5, e5⟩ : ∃ S : List tc_Tok, S = T4 ++ [(1, 7, (-1))] := ⟨_, rfl⟩
  have m5 : T5.length = T4.length + 1 := by rw [e5, List.length_append]; rfl
  have l4 : T4.length + 1 ≤ 1000 := by omega
  obtain ⟨T6, e6⟩ : ∃ S : List tc_Tok, S = T5 ++ (tc_addTo lv 8 x).1 := ⟨_, rfl⟩
  have m6 : T6.length = T5.length + 9 := by rw [e6, List.length_append]; rfl
  have l5 : T5.length + 9 ≤ 1000 := by omega
  obtain ⟨T7, e7⟩ : ∃ S : List tc_Tok, S = T6 ++ [(3, 7, 0)] := ⟨_, rfl⟩
  have m7 : T7.length = T6.length + 1 := by rw [e7, List.length_append]; rfl
  have l6 : T6.length + 1 ≤ 1000 := by omega
  obtain ⟨T8, e8⟩ : ∃ S : List tc_Tok, S = T7 ++ (tc_clear lv 8).1 := ⟨_, rfl⟩
  have m8 : T8.length = T7.length + 3 := by rw [e8, List.length_append]; rfl
  have l7 : T7.length + 3 ≤ 1000 := by omega
  have en : T8 = T ++ (tc_product lv x y z).1 := by rw [e8, e7, e6, e5, e4, e3, e2, e1]; exact tc_eproduct T lv x y z
  have hwn : tc_Wr C post T8 wt ns tasks := tc_wr_cast en hw
  have p0 := hp
  have h0 := hh
  delta wpX_writeProduct
  refine tc_waddTo lv y 7 e1 l0 bb_y bb_7 (fun o1 a1 p1 h1 => ?_) p0 h0
  refine tc_waddTo lv z 8 e2 l1 bb_z bb_8 (fun o2 a2 p2 h2 => ?_) p1 h1
  refine tc_wclear lv x e3 l2 bb_x (fun o3 a3 p3 h3 => ?_) p2 h2
  refine tc_put 2 7 0 e4 l3 bb_7 (fun o4 a4 p4 h4 => ?_) p3 h3
  refine tc_put 1 7 (-1) e5 l4 bb_7 (fun o5 a5 p5 h5 => ?_) p4 h4
  refine tc_waddTo lv 8 x e6 l5 bb_8 bb_x (fun o6 a6 p6 h6 => ?_) p5 h5
  refine tc_put 3 7 0 e7 l6 bb_7 (fun o7 a7 p7 h7 => ?_) p6 h6
  refine tc_wclear lv 8 e8 l7 bb_8 (fun o8 a8 p8 h8 => ?_) p7 h7
  exact hwn o8 a8 p8 h8
theorem tc_eless (T : List tc_Tok) (lv : Bool) (x y z : Nat) : T ++ (tc_addTo lv y 7).1 ++ (tc_addTo lv z 8).1 ++ [(2, 7, 0)] ++ [(1, 7, (-1))] ++ (tc_addTo lv 8 10).1 ++ [(2, 10, 0)] ++ [(1, 8, (-1))] ++ (tc_clear lv 10).1 ++ [(3, 10, 0)] ++ [(3, 7, 0)] ++ (tc_clear lv x).1 ++ [(2, 8, 0)] ++ [(1, x, 1)] ++ (tc_clear lv 8).1 ++ [(3, 8, 0)] = T ++ (tc_less lv x y z).1 := by
  simp only [tc_less, tc_seq, tc_loop, tc_tok, List.append_assoc, List.cons_append, List.nil_append]
theorem tc_wless {C : tc_C} {post : SX → Prop} {T T' : List tc_Tok} {wt ns : Int32} {tasks ops args : Nat → Int32} (lv : Bool) (x y z : Nat) (eT : T' = T ++ (tc_less lv x y z).1) (hl : T.length + 100 ≤ 1000) (hx : x < 6) (hy : y < 6) (hz : z < 6) (hw : tc_Wr C post T' wt ns tasks) (hp : tc_pl 0 T < 128) (hh : tc_hold ops args 0 (tc_em 0 T)) : wpX_writeLess post (C.1, C.2.1, C.2.2.1, nI (tc_em 0 (T)).length, nI (tc_pl 0 (T)), wt, ns, C.2.2.2.1, C.2.2.2.2.1, C.2.2.2.2.2.1, C.2.2.2.2.2.2.1, C.2.2.2.2.2.2.2.1, C.2.2.2.2.2.2.2.2.1, C.2.2.2.2.2.2.2.2.2.1, C.2.2.2.2.2.2.2.2.2.2.1, ops, args, tasks, C.2.2.2.2.2.2.2.2.2.2.2) (nI x) (nI y) (nI z) := by
  subst eT
  have bb_10 : 10 < 128 := by omega
  have bb_7 : 7 < 128 := by omega
  have bb_8 : 8 < 128 := by omega
  have bb_x : x < 128 := by omega
  have bb_y : y < 128 := by omega
  have bb_z : z < 128 := by omega
  obtain ⟨T1, e1⟩ : ∃ S : List tc_Tok, S = T ++ (tc_addTo lv y 7).1 := ⟨_, rfl⟩
  have m1 : T1.length = T.length + 9 := by rw [e1, List.length_append]; rfl
  have l0 : T.length + 9 ≤ 1000 := by omega
  obtain ⟨T2, e2⟩ : ∃ S : List tc_Tok, S = T1 ++ (tc_addTo lv z 8).1 := ⟨_, rfl⟩
  have m2 : T2.length = T1.length + 9 := by rw [e2, List.length_append]; rfl
  have l1 : T1.length + 9 ≤ 1000 := by omega
  obtain ⟨T3, e3⟩ : ∃ S : List tc_Tok, S = T2 ++ [(2, 7, 0)] := ⟨_, rfl⟩
  have m3 : T3.length = T2.length + 1 := by rw [e3, List.length_append]; rfl
  have l2 : T2.length + 1 ≤ 1000 := by omega
  obtain ⟨T4, e4⟩ : ∃ S : List tc_Tok, S = T3 ++ [(1, 7, (-1))] := ⟨_, rfl⟩
  have m4 : T4.length = T3.length + 1 := by rw [e4, List.length_append]; rfl
  have l3 : T3.length + 1 ≤ 1000 := by omega
  obtain ⟨T5, e5⟩ : ∃ S : List tc_Tok, S = T4 ++ (tc_addTo lv 8 10).1 := ⟨_, rfl⟩
  have m5 : T5.length = T4.length + 9 := by rw [e5, List.length_append]; rfl
  have l4 : T4.length + 9 ≤ 1000 := by omega
  obtain ⟨T6, e6⟩ : ∃ S : List tc_Tok, S = T5 ++ [(2, 10, 0)] := ⟨_, rfl⟩
  have m6 : T6.length = T5.length + 1 := by rw [e6, List.length_append]; rfl
  have l5 : T5.length + 1 ≤ 1000 := by omega
  obtain ⟨T7, e7⟩ : ∃ S : List tc_Tok, S = T6 ++ [(1, 8, (-1))] := ⟨_, rfl⟩
  have m7 : T7.length = T6.length + 1 := by rw [e7, List.length_append]; rfl
  have l6 : T6.length + 1 ≤ 1000 := by omega
  obtain ⟨T8, e8⟩ : ∃ S : List tc_Tok, S = T7 ++ (tc_clear lv 10).1 := ⟨_, rfl⟩
  have m8 : T8.length = T7.length + 3 := by rw [e8, List.length_append]; rfl
  have l7 : T7.length + 3 ≤ 1000 := by omega
  obtain ⟨T9, e9⟩ : ∃ S : List tc_Tok, S = T8 ++ [(3, 10, 0)] := ⟨_, rfl⟩
  have m9 : T9.length = T8.length + 1 := by rw [e9, List.length_append]; rfl
  have l8 : T8.length + 1 ≤ 1000 := by omega
  obtain ⟨T10, e10⟩ : ∃ S : List tc_Tok, S = T9 ++ [(3, 7, 0)] := ⟨_, rfl⟩
  have m10 : T10.length = T9.length + 1 := by rw [e10, List.length_append]; rfl
  have l9 : T9.length + 1 ≤ 1000 := by omega
  obtain ⟨T11, e11⟩ : ∃ S : List tc_Tok, S = T10 ++ (tc_clear lv x).1 := ⟨_, rfl⟩
  have m11 : T11.length = T10.length + 3 := by rw [e11, List.length_append]; rfl
  have l10 : T10.length + 3 ≤ 1000 := by omega
  obtain ⟨T12, e12⟩ : ∃ S : List tc_Tok, S = T11 ++ [(2, 8, 0)] := ⟨_, rfl⟩
  have m12 : T12.length = T11.length + 1 := by rw [e12, List.length_append]; rfl
  have l11 : T11.length + 1 ≤ 1000 := by omega
  obtain ⟨T13, e13⟩ : ∃ S : List tc_Tok, S = T12 ++ [(1, x, 1)] := ⟨_, rfl⟩
  have m13 : T13.length = T12.length + 1 := by rw [e13, List.length_append]; rfl
  have l12 : T12.length + 1 ≤ 1000 := by omega
  obtain ⟨T14, e14⟩ : ∃ S : List tc_Tok, S = T13 ++ (tc_clear lv 8).1 := ⟨_, rfl⟩
  have m14 : T14.length = T13.length + 3 := by rw [e14, List.length_append]; rfl
  have l13 : T13.length + 3 ≤ 1000 := by omega
  obtain ⟨T15, e15⟩ : ∃ S : List tc_Tok, S = T14 ++ [(3, 8, 0)] := ⟨_, rfl⟩
  have m15 : T15.length = T14.length + 1 := by rw [e15, List.length_append]; rfl
  have l14 : T14.length + 1 ≤ 1000 := by omega
  have en : T15 = T ++ (tc_less lv x y z).1 := by rw [e15, e14, e13, e12, e11, e10, e9, e8, e7, e6, e5, e4, e3, e2, e1]; exact tc_eless T lv x y z
  have hwn : tc_Wr C post T15 wt ns tasks := tc_wr_cast en hw
  have p0 := hp
  have h0 := hh
  delta wpX_writeLess
  refine tc_waddTo lv y 7 e1 l0 bb_y bb_7 (fun o1 a1 p1 h1 => ?_) p0 h0
  refine tc_waddTo lv z 8 e2 l1 bb_z bb_8 (fun o2 a2 p2 h2 => ?_) p1 h1
  refine tc_put 2 7 0 e3 l2 bb_7 (fun o3 a3 p3 h3 => ?_) p2 h2
  refine tc_put 1 7 (-1) e4 l3 bb_7 (fun o4 a4 p4 h4 => ?_) p3 h3
  refine tc_waddTo lv 8 10 e5 l4 bb_8 bb_10 (fun o5 a5 p5 h5 => ?_) p4 h4
  refine tc_put 2 10 0 e6 l5 bb_10 (fun o6 a6 p6 h6 => ?_) p5 h5
  refine tc_put 1 8 (-1) e7 l6 bb_8 (fun o7 a7 p7 h7 => ?_) p6 h6
  refine tc_wclear lv 10 e8 l7 bb_10 (fun o8 a8 p8 h8 => ?_) p7 h7
  refine tc_put 3 10 0 e9 l8 bb_10 (fun o9 a9 p9 h9 => ?_) p8 h8
  refine tc_put 3 7 0 e10 l9 bb_7 (fun o10 a10 p10 h10 => ?_) p9 h9
  refine tc_wclear lv x e11 l10 bb_x (fun o11 a11 p11 h11 => ?_) p10 h10
  refine tc_put 2 8 0 e12 l11 bb_8 (fun o12 a12 p12 h12 => ?_) p11 h11
  refine tc_put 1 x 1 e13 l12 bb_x (fun o13 a13 p13 h13 => ?_) p12 h12
  refine tc_wclear lv 8 e14 l13 bb_8 (fun o14 a14 p14 h14 => ?_) p13 h13
  refine tc_put 3 8 0 e15 l14 bb_8 (fun o15 a15 p15 h15 => ?_) p14 h14
  exact hwn o15 a15 p15 h15
theorem tc_eequal (T : List tc_Tok) (lv : Bool) (x y z : Nat) : T ++ (tc_addTo lv y 7).1 ++ (tc_addTo lv z 8).1 ++ (tc_pour lv 8 7 (-1)).1 ++ (tc_clear lv x).1 ++ [(1, x, 1)] ++ [(2, 7, 0)] ++ [(1, x, (-1))] ++ (tc_clear lv 7).1 ++ [(3, 7, 0)] = T ++ (tc_equal lv x y z).1 := by
  simp only [tc_equal, tc_seq, tc_loop, tc_tok, List.append_assoc, List.cons_append, List.nil_append]
theorem tc_wequal {C : tc_C} {post : SX → Prop} {T T' : List tc_Tok} {wt ns : Int32} {tasks ops args : Nat → Int32} (lv : Bool) (x y z : Nat) (eT : T' = T ++ (tc_equal lv x y z).1) (hl : T.length + 100 ≤ 1000) (hx : x < 6) (hy : y < 6) (hz : z < 6) (hw : tc_Wr C post T' wt ns tasks) (hp : tc_pl 0 T < 128) (hh : tc_hold ops args 0 (tc_em 0 T)) : wpX_writeEqual post (C.1, C.2.1, C.2.2.1, nI (tc_em 0 (T)).length, nI (tc_pl 0 (T)), wt, ns, C.2.2.2.1, C.2.2.2.2.1, C.2.2.2.2.2.1, C.2.2.2.2.2.2.1, C.2.2.2.2.2.2.2.1, C.2.2.2.2.2.2.2.2.1, C.2.2.2.2.2.2.2.2.2.1, C.2.2.2.2.2.2.2.2.2.2.1, ops, args, tasks, C.2.2.2.2.2.2.2.2.2.2.2) (nI x) (nI y) (nI z) := by
  subst eT
  have bb_7 : 7 < 128 := by omega
  have bb_8 : 8 < 128 := by omega
  have bb_x : x < 128 := by omega
  have bb_y : y < 128 := by omega
  have bb_z : z < 128 := by omega
  obtain ⟨T1, e1⟩ : ∃ S : List tc_Tok, S = T ++ (tc_addTo lv y 7).1 := ⟨_, rfl⟩
  have m1 : T1.length = T.length + 9 := by rw [e1, List.length_append]; rfl
  have l0 : T.length + 9 ≤ 1000 := by omega
  obtain ⟨T2, e2⟩ : ∃ S : List tc_Tok, S = T1 ++ (tc_addTo lv z 8).1 := ⟨_, rfl⟩
  have m2 : T2.length = T1.length + 9 := by rw [e2, List.length_append]; rfl
  have l1 : T1.length + 9 ≤ 1000 := by omega
  obtain ⟨T3, e3⟩ : ∃ S : List tc_Tok, S = T2 ++ (tc_pour lv 8 7 (-1)).1 := ⟨_, rfl⟩
  have m3 : T3.length = T2.length + 4 := by rw [e3, List.length_append]; rfl
  have l2 : T2.length + 4 ≤ 1000 := by omega
  obtain ⟨T4, e4⟩ : ∃ S : List tc_Tok, S = T3 ++ (tc_clear lv x).1 := ⟨_, rfl⟩
  have m4 : T4.length = T3.length + 3 := by rw [e4, List.length_append]; rfl
  have l3 : T3.length + 3 ≤ 1000 := by omega
  obtain ⟨T5, e5⟩ : ∃ S : List tc_Tok, S = T4 ++ [(1, x, 1)] := ⟨_, rfl⟩
  have m5 : T5.length = T4.length + 1 := by rw [e5, List.length_append]; rfl
  have l4 : T4.length + 1 ≤ 1000 := by omega
  obtain ⟨T6, e6⟩ : ∃ S : List tc_Tok, S = T5 ++ [(2, 7, 0)] := ⟨_, rfl⟩
  have m6 : T6.length = T5.length + 1 := by rw [e6, List.length_append]; rfl
  have l5 : T5.length + 1 ≤ 1000 := by omega
  obtain ⟨T7, e7⟩ : ∃ S : List tc_Tok, S = T6 ++ [(1, x, (-1))] := ⟨_, rfl⟩
  have m7 : T7.length = T6.length + 1 := by rw [e7, List.length_append]; rfl
  have l6 : T6.length + 1 ≤ 1000 := by omega
  obtain ⟨T8, e8⟩ : ∃ S : List tc_Tok, S = T7 ++ (tc_clear lv 7).1 := ⟨_, rfl⟩
  have m8 : T8.length = T7.length + 3 := by rw [e8, List.length_append]; rfl
  have l7 : T7.length + 3 ≤ 1000 := by omega
  obtain ⟨T9, e9⟩ : ∃ S : List tc_Tok, S = T8 ++ [(3, 7, 0)] := ⟨_, rfl⟩
  have m9 : T9.length = T8.length + 1 := by rw [e9, List.length_append]; rfl
  have l8 : T8.length + 1 ≤ 1000 := by omega
  have en : T9 = T ++ (tc_equal lv x y z).1 := by rw [e9, e8, e7, e6, e5, e4, e3, e2, e1]; exact tc_eequal T lv x y z
  have hwn : tc_Wr C post T9 wt ns tasks := tc_wr_cast en hw
  have p0 := hp
  have h0 := hh
  delta wpX_writeEqual
  refine tc_waddTo lv y 7 e1 l0 bb_y bb_7 (fun o1 a1 p1 h1 => ?_) p0 h0
  refine tc_waddTo lv z 8 e2 l1 bb_z bb_8 (fun o2 a2 p2 h2 => ?_) p1 h1
  refine tc_wpour lv 8 7 (-1) e3 l2 bb_8 bb_7 (fun o3 a3 p3 h3 => ?_) p2 h2
  refine tc_wclear lv x e4 l3 bb_x (fun o4 a4 p4 h4 => ?_) p3 h3
  refine tc_put 1 x 1 e5 l4 bb_x (fun o5 a5 p5 h5 => ?_) p4 h4
  refine tc_put 2 7 0 e6 l5 bb_7 (fun o6 a6 p6 h6 => ?_) p5 h5
  refine tc_put 1 x (-1) e7 l6 bb_x (fun o7 a7 p7 h7 => ?_) p6 h6
  refine tc_wclear lv 7 e8 l7 bb_7 (fun o8 a8 p8 h8 => ?_) p7 h7
  refine tc_put 3 7 0 e9 l8 bb_7 (fun o9 a9 p9 h9 => ?_) p8 h8
  exact hwn o9 a9 p9 h9
theorem tc_equot (T : List tc_Tok) (lv : Bool) (x y z : Nat) : T ++ (tc_addTo lv y 7).1 ++ (tc_addTo lv z 8).1 ++ (tc_addTo lv 8 9).1 ++ [(2, 7, 0)] ++ [(1, 7, (-1))] ++ [(1, 9, (-1))] ++ [(1, 10, 1)] ++ (tc_addTo lv 9 11).1 ++ [(2, 11, 0)] ++ [(1, 10, (-1))] ++ (tc_clear lv 11).1 ++ [(3, 11, 0)] ++ [(2, 10, 0)] ++ [(1, 10, (-1))] ++ [(1, 12, 1)] ++ (tc_addTo lv 8 9).1 ++ [(3, 10, 0)] ++ [(3, 7, 0)] ++ (tc_clear lv 8).1 ++ (tc_clear lv 9).1 ++ (tc_clear lv x).1 ++ (tc_pour lv 12 x 1).1 = T ++ (tc_quot lv x y z).1 := by
  simp only [tc_quot, tc_seq, tc_loop, tc_tok, List.append_assoc, List.cons_append, List.nil_append]
theorem tc_wquot {C : tc_C} {post : SX → Prop} {T T' : List tc_Tok} {wt ns : Int32} {tasks ops args : Nat → Int32} (lv : Bool) (x y z : Nat) (eT : T' = T ++ (tc_quot lv x y z).1) (hl : T.length + 100 ≤ 1000) (hx : x < 6) (hy : y < 6) (hz : z < 6) (hw : tc_Wr C post T' wt ns tasks) (hp : tc_pl 0 T < 128) (hh : tc_hold ops args 0 (tc_em 0 T)) : wpX_writeQuotient post (C.1, C.2.1, C.2.2.1, nI (tc_em 0 (T)).length, nI (tc_pl 0 (T)), wt, ns, C.2.2.2.1, C.2.2.2.2.1, C.2.2.2.2.2.1, C.2.2.2.2.2.2.1, C.2.2.2.2.2.2.2.1, C.2.2.2.2.2.2.2.2.1, C.2.2.2.2.2.2.2.2.2.1, C.2.2.2.2.2.2.2.2.2.2.1, ops, args, tasks, C.2.2.2.2.2.2.2.2.2.2.2) (nI x) (nI y) (nI z) := by
  subst eT
  have bb_10 : 10 < 128 := by omega
  have bb_11 : 11 < 128 := by omega
  have bb_12 : 12 < 128 := by omega
  have bb_7 : 7 < 128 := by omega
  have bb_8 : 8 < 128 := by omega
  have bb_9 : 9 < 128 := by omega
  have bb_x : x < 128 := by omega
  have bb_y : y < 128 := by omega
  have bb_z : z < 128 := by omega
  obtain ⟨T1, e1⟩ : ∃ S : List tc_Tok, S = T ++ (tc_addTo lv y 7).1 := ⟨_, rfl⟩
  have m1 : T1.length = T.length + 9 := by rw [e1, List.length_append]; rfl
  have l0 : T.length + 9 ≤ 1000 := by omega
  obtain ⟨T2, e2⟩ : ∃ S : List tc_Tok, S = T1 ++ (tc_addTo lv z 8).1 := ⟨_, rfl⟩
  have m2 : T2.length = T1.length + 9 := by rw [e2, List.length_append]; rfl
  have l1 : T1.length + 9 ≤ 1000 := by omega
  obtain ⟨T3, e3⟩ : ∃ S : List tc_Tok, S = T2 ++ (tc_addTo lv 8 9).1 := ⟨_, rfl⟩
  have m3 : T3.length = T2.length + 9 := by rw [e3, List.length_append]; rfl
  have l2 : T2.length + 9 ≤ 1000 := by omega
  obtain ⟨T4, e4⟩ : ∃ S : List tc_Tok, S = T3 ++ [(2, 7, 0)] := ⟨_, rfl⟩
  have m4 : T4.length = T3.length + 1 := by rw [e4, List.length_append]; rfl
  have l3 : T3.length + 1 ≤ 1000 := by omega
  obtain ⟨T5, e5⟩ : ∃ S : List tc_Tok, S = T4 ++ [(1, 7, (-1))] := ⟨_, rfl⟩
  have m5 : T5.length = T4.length + 1 := by rw [e5, List.length_append]; rfl
  have l4 : T4.length + 1 ≤ 1000 := by omega
  obtain ⟨T6, e6⟩ : ∃ S : List tc_Tok, S = T5 ++ [(1, 9, (-1))] := ⟨_, rfl⟩
  have m6 : T6.length = T5.length + 1 := by rw [e6, List.length_append]; rfl
  have l5 : T5.length + 1 ≤ 1000 := by omega
  obtain ⟨T7, e7⟩ : ∃ S : List tc_Tok, S = T6 ++ [(1, 10, 1)] := ⟨_, rfl⟩
  have m7 : T7.length = T6.length + 1 := by rw [e7, List.length_append]; rfl
  have l6 : T6.length + 1 ≤ 1000 := by omega
  obtain ⟨T8, e8⟩ : ∃ S : List tc_Tok, S = T7 ++ (tc_addTo lv 9 11).1 := ⟨_, rfl⟩
  have m8 : T8.length = T7.length + 9 := by rw [e8, List.length_append]; rfl
  have l7 : T7.length + 9 ≤ 1000 := by omega
  obtain ⟨T9, e9⟩ : ∃ S : List tc_Tok, S = T8 ++ [(2, 11, 0)] := ⟨_, rfl⟩
  have m9 : T9.length = T8.length + 1 := by rw [e9, List.length_append]; rfl
  have l8 : T8.length + 1 ≤ 1000 := by omega
  obtain ⟨T10, e10⟩ : ∃ S : List tc_Tok, S = T9 ++ [(1, 10, (-1))] := ⟨_, rfl⟩
  have m10 : T10.length = T9.length + 1 := by rw [e10, List.length_append]; rfl
  have l9 : T9.length + 1 ≤ 1000 := by omega
  obtain ⟨T11, e11⟩ : ∃ S : List tc_Tok, S = T10 ++ (tc_clear lv 11).1 := ⟨_, rfl⟩
  have m11 : T11.length = T10.length + 3 := by rw [e11, List.length_append]; rfl
  have l10 : T10.length + 3 ≤ 1000 := by omega
  obtain ⟨T12, e12⟩ : ∃ S : List tc_Tok, S = T11 ++ [(3, 11, 0)] := ⟨_, rfl⟩
  have m12 : T12.length = T11.length + 1 := by rw [e12, List.length_append]; rfl
  have l11 : T11.length + 1 ≤ 1000 := by omega
  obtain ⟨T13, e13⟩ : ∃ S : List tc_Tok, S = T12 ++ [(2, 10, 0)] := ⟨_, rfl⟩
  have m13 : T13.length = T12.length + 1 := by rw [e13, List.length_append]; rfl
  have l12 : T12.length + 1 ≤ 1000 := by omega
  obtain ⟨T14, e14⟩ : ∃ S : List tc_Tok, S = T13 ++ [(1, 10, (-1))] := ⟨_, rfl⟩
  have m14 : T14.length = T13.length + 1 := by rw [e14, List.length_append]; rfl
  have l13 : T13.length + 1 ≤ 1000 := by omega
  obtain ⟨T15, e15⟩ : ∃ S : List tc_Tok, S = T14 ++ [(1, 12, 1)] := ⟨_, rfl⟩
  have m15 : T15.length = T14.length + 1 := by rw [e15, List.length_append]; rfl
  have l14 : T14.length + 1 ≤ 1000 := by omega
  obtain ⟨T16, e16⟩ : ∃ S : List tc_Tok, S = T15 ++ (tc_addTo lv 8 9).1 := ⟨_, rfl⟩
  have m16 : T16.length = T15.length + 9 := by rw [e16, List.length_append]; rfl
  have l15 : T15.length + 9 ≤ 1000 := by omega
  obtain ⟨T17, e17⟩ : ∃ S : List tc_Tok, S = T16 ++ [(3, 10, 0)] := ⟨_, rfl⟩
  have m17 : T17.length = T16.length + 1 := by rw [e17, List.length_append]; rfl
  have l16 : T16.length + 1 ≤ 1000 := by omega
  obtain ⟨T18, e18⟩ : ∃ S : List tc_Tok, S = T17 ++ [(3, 7, 0)] := ⟨_, rfl⟩
  have m18 : T18.length = T17.length + 1 := by rw [e18, List.length_append]; rfl
  have l17 : T17.length + 1 ≤ 1000 := by omega
  obtain ⟨T19, e19⟩ : ∃ S : List tc_Tok, S = T18 ++ (tc_clear lv 8).1 := ⟨_, rfl⟩
  have m19 : T19.length = T18.length + 3 := by rw [e19, List.length_append]; rfl
  have l18 : T18.length + 3 ≤ 1000 := by omega
  obtain ⟨T20, e20⟩ : ∃ S : List tc_Tok, S = T19 ++ (tc_clear lv 9).1 := ⟨_, rfl⟩
  have m20 : T20.length = T19.length + 3 := by rw [e20, List.length_append]; rfl
  have l19 : T19.length + 3 ≤ 1000 := by omega
  obtain ⟨T21, e21⟩ : ∃ S : List tc_Tok, S = T20 ++ (tc_clear lv x).1 := ⟨_, rfl⟩
  have m21 : T21.length = T20.length + 3 := by rw [e21, List.length_append]; rfl
  have l20 : T20.length + 3 ≤ 1000 := by omega
  obtain ⟨T22, e22⟩ : ∃ S : List tc_Tok, S = T21 ++ (tc_pour lv 12 x 1).1 := ⟨_, rfl⟩
  have m22 : T22.length = T21.length + 4 := by rw [e22, List.length_append]; rfl
  have l21 : T21.length + 4 ≤ 1000 := by omega
  have en : T22 = T ++ (tc_quot lv x y z).1 := by rw [e22, e21, e20, e19, e18, e17, e16, e15, e14, e13, e12, e11, e10, e9, e8, e7, e6, e5, e4, e3, e2, e1]; exact tc_equot T lv x y z
  have hwn : tc_Wr C post T22 wt ns tasks := tc_wr_cast en hw
  have p0 := hp
  have h0 := hh
  delta wpX_writeQuotient
  refine tc_waddTo lv y 7 e1 l0 bb_y bb_7 (fun o1 a1 p1 h1 => ?_) p0 h0
  refine tc_waddTo lv z 8 e2 l1 bb_z bb_8 (fun o2 a2 p2 h2 => ?_) p1 h1
  refine tc_waddTo lv 8 9 e3 l2 bb_8 bb_9 (fun o3 a3 p3 h3 => ?_) p2 h2
  refine tc_put 2 7 0 e4 l3 bb_7 (fun o4 a4 p4 h4 => ?_) p3 h3
  refine tc_put 1 7 (-1) e5 l4 bb_7 (fun o5 a5 p5 h5 => ?_) p4 h4
  refine tc_put 1 9 (-1) e6 l5 bb_9 (fun o6 a6 p6 h6 => ?_) p5 h5
  refine tc_put 1 10 1 e7 l6 bb_10 (fun o7 a7 p7 h7 => ?_) p6 h6
  refine tc_waddTo lv 9 11 e8 l7 bb_9 bb_11 (fun o8 a8 p8 h8 => ?_) p7 h7
  refine tc_put 2 11 0 e9 l8 bb_11 (fun o9 a9 p9 h9 => ?_) p8 h8
  refine tc_put 1 10 (-1) e10 l9 bb_10 (fun o10 a10 p10 h10 => ?_) p9 h9
  refine tc_wclear lv 11 e11 l10 bb_11 (fun o11 a11 p11 h11 => ?_) p10 h10
  refine tc_put 3 11 0 e12 l11 bb_11 (fun o12 a12 p12 h12 => ?_) p11 h11
  refine tc_put 2 10 0 e13 l12 bb_10 (fun o13 a13 p13 h13 => ?_) p12 h12
  refine tc_put 1 10 (-1) e14 l13 bb_10 (fun o14 a14 p14 h14 => ?_) p13 h13
  refine tc_put 1 12 1 e15 l14 bb_12 (fun o15 a15 p15 h15 => ?_) p14 h14
  refine tc_waddTo lv 8 9 e16 l15 bb_8 bb_9 (fun o16 a16 p16 h16 => ?_) p15 h15
  refine tc_put 3 10 0 e17 l16 bb_10 (fun o17 a17 p17 h17 => ?_) p16 h16
  refine tc_put 3 7 0 e18 l17 bb_7 (fun o18 a18 p18 h18 => ?_) p17 h17
  refine tc_wclear lv 8 e19 l18 bb_8 (fun o19 a19 p19 h19 => ?_) p18 h18
  refine tc_wclear lv 9 e20 l19 bb_9 (fun o20 a20 p20 h20 => ?_) p19 h19
  refine tc_wclear lv x e21 l20 bb_x (fun o21 a21 p21 h21 => ?_) p20 h20
  refine tc_wpour lv 12 x 1 e22 l21 bb_12 bb_x (fun o22 a22 p22 h22 => ?_) p21 h21
  exact hwn o22 a22 p22 h22
theorem tc_ews0 (T : List tc_Tok) (lv : Bool) (x y : Nat) : T ++ (tc_clear lv x).1 ++ [(1, x, (nI y))] = T ++ (tc_seq (tc_clear lv x) (tc_tok (1, x, nI y))).1 := by
  simp only [tc_seq, tc_loop, tc_tok, List.append_assoc, List.cons_append, List.nil_append]
theorem tc_ws0 {C : tc_C} {post : SX → Prop} {T : List tc_Tok} {wt ns : Int32} {tasks ops args : Nat → Int32} (lv : Bool) (x y : Nat) (z : Int32) (hl : T.length + 100 ≤ 1000) (hx : x < 6)  (hw : tc_Wr C post (T ++ (tc_seq (tc_clear lv x) (tc_tok (1, x, nI y))).1) wt ns tasks) (hp : tc_pl 0 T < 128) (hh : tc_hold ops args 0 (tc_em 0 T)) : wpX_writeSimple post (C.1, C.2.1, C.2.2.1, nI (tc_em 0 (T)).length, nI (tc_pl 0 (T)), wt, ns, C.2.2.2.1, C.2.2.2.2.1, C.2.2.2.2.2.1, C.2.2.2.2.2.2.1, C.2.2.2.2.2.2.2.1, C.2.2.2.2.2.2.2.2.1, C.2.2.2.2.2.2.2.2.2.1, C.2.2.2.2.2.2.2.2.2.2.1, ops, args, tasks, C.2.2.2.2.2.2.2.2.2.2.2) (nI 0) (nI x) (nI y) z := by
  delta wpX_writeSimple
  have bb_x : x < 128 := by omega
  obtain ⟨T1, e1⟩ : ∃ S : List tc_Tok, S = T ++ (tc_clear lv x).1 := ⟨_, rfl⟩
  have m1 : T1.length = T.length + 3 := by rw [e1, List.length_append]; rfl
  have l0 : T.length + 3 ≤ 1000 := by omega
  obtain ⟨T2, e2⟩ : ∃ S : List tc_Tok, S = T1 ++ [(1, x, (nI y))] := ⟨_, rfl⟩
  have m2 : T2.length = T1.length + 1 := by rw [e2, List.length_append]; rfl
  have l1 : T1.length + 1 ≤ 1000 := by omega
  have en : T2 = T ++ (tc_seq (tc_clear lv x) (tc_tok (1, x, nI y))).1 := by rw [e2, e1]; exact tc_ews0 T lv x y
  have hwn : tc_Wr C post T2 wt ns tasks := tc_wr_cast en hw
  have p0 := hp
  have h0 := hh
  refine br_f (by decide) (br_f (by decide) (br_t rfl (?_)))
  refine tc_wclear lv x e1 l0 bb_x (fun o1 a1 p1 h1 => ?_) p0 h0
  refine tc_put 1 x (nI y) e2 l1 bb_x (fun o2 a2 p2 h2 => ?_) p1 h1
  exact hwn o2 a2 p2 h2
theorem tc_ews1 (T : List tc_Tok) (lv : Bool) (x y : Nat) : T ++ (tc_addTo lv y 7).1 ++ (tc_clear lv x).1 ++ (tc_pour lv 7 x 1).1 = T ++ (tc_seq (tc_addTo lv y 7) (tc_seq (tc_clear lv x) (tc_pour lv 7 x 1))).1 := by
  simp only [tc_seq, tc_loop, tc_tok, List.append_assoc, List.cons_append, List.nil_append]
theorem tc_ws1 {C : tc_C} {post : SX → Prop} {T : List tc_Tok} {wt ns : Int32} {tasks ops args : Nat → Int32} (lv : Bool) (x y : Nat) (z : Int32) (hl : T.length + 100 ≤ 1000) (hx : x < 6) (hy : y < 6) (hw : tc_Wr C post (T ++ (tc_seq (tc_addTo lv y 7) (tc_seq (tc_clear lv x) (tc_pour lv 7 x 1))).1) wt ns tasks) (hp : tc_pl 0 T < 128) (hh : tc_hold ops args 0 (tc_em 0 T)) : wpX_writeSimple post (C.1, C.2.1, C.2.2.1, nI (tc_em 0 (T)).length, nI (tc_pl 0 (T)), wt, ns, C.2.2.2.1, C.2.2.2.2.1, C.2.2.2.2.2.1, C.2.2.2.2.2.2.1, C.2.2.2.2.2.2.2.1, C.2.2.2.2.2.2.2.2.1, C.2.2.2.2.2.2.2.2.2.1, C.2.2.2.2.2.2.2.2.2.2.1, ops, args, tasks, C.2.2.2.2.2.2.2.2.2.2.2) (nI 1) (nI x) (nI y) z := by
  delta wpX_writeSimple
  have bb_7 : 7 < 128 := by omega
  have bb_x : x < 128 := by omega
  have bb_y : y < 128 := by omega
  obtain ⟨T1, e1⟩ : ∃ S : List tc_Tok, S = T ++ (tc_addTo lv y 7).1 := ⟨_, rfl⟩
  have m1 : T1.length = T.length + 9 := by rw [e1, List.length_append]; rfl
  have l0 : T.length + 9 ≤ 1000 := by omega
  obtain ⟨T2, e2⟩ : ∃ S : List tc_Tok, S = T1 ++ (tc_clear lv x).1 := ⟨_, rfl⟩
  have m2 : T2.length = T1.length + 3 := by rw [e2, List.length_append]; rfl
  have l1 : T1.length + 3 ≤ 1000 := by omega
  obtain ⟨T3, e3⟩ : ∃ S : List tc_Tok, S = T2 ++ (tc_pour lv 7 x 1).1 := ⟨_, rfl⟩
  have m3 : T3.length = T2.length + 4 := by rw [e3, List.length_append]; rfl
  have l2 : T2.length + 4 ≤ 1000 := by omega
  have en : T3 = T ++ (tc_seq (tc_addTo lv y 7) (tc_seq (tc_clear lv x) (tc_pour lv 7 x 1))).1 := by rw [e3, e2, e1]; exact tc_ews1 T lv x y
  have hwn : tc_Wr C post T3 wt ns tasks := tc_wr_cast en hw
  have p0 := hp
  have h0 := hh
  refine br_f (by decide) (br_f (by decide) (br_f (by decide) (br_t rfl (?_))))
  refine tc_waddTo lv y 7 e1 l0 bb_y bb_7 (fun o1 a1 p1 h1 => ?_) p0 h0
  refine tc_wclear lv x e2 l1 bb_x (fun o2 a2 p2 h2 => ?_) p1 h1
  refine tc_wpour lv 7 x 1 e3 l2 bb_7 bb_x (fun o3 a3 p3 h3 => ?_) p2 h2
  exact hwn o3 a3 p3 h3
theorem tc_ews2 (T : List tc_Tok) (lv : Bool) (x y : Nat) : T ++ (tc_addTo lv y 7).1 ++ (tc_pour lv 7 x 1).1 = T ++ (tc_seq (tc_addTo lv y 7) (tc_pour lv 7 x 1)).1 := by
  simp only [tc_seq, tc_loop, tc_tok, List.append_assoc, List.cons_append, List.nil_append]
theorem tc_ws2 {C : tc_C} {post : SX → Prop} {T : List tc_Tok} {wt ns : Int32} {tasks ops args : Nat → Int32} (lv : Bool) (x y : Nat) (z : Int32) (hl : T.length + 100 ≤ 1000) (hx : x < 6) (hy : y < 6) (hw : tc_Wr C post (T ++ (tc_seq (tc_addTo lv y 7) (tc_pour lv 7 x 1)).1) wt ns tasks) (hp : tc_pl 0 T < 128) (hh : tc_hold ops args 0 (tc_em 0 T)) : wpX_writeSimple post (C.1, C.2.1, C.2.2.1, nI (tc_em 0 (T)).length, nI (tc_pl 0 (T)), wt, ns, C.2.2.2.1, C.2.2.2.2.1, C.2.2.2.2.2.1, C.2.2.2.2.2.2.1, C.2.2.2.2.2.2.2.1, C.2.2.2.2.2.2.2.2.1, C.2.2.2.2.2.2.2.2.2.1, C.2.2.2.2.2.2.2.2.2.2.1, ops, args, tasks, C.2.2.2.2.2.2.2.2.2.2.2) (nI 2) (nI x) (nI y) z := by
  delta wpX_writeSimple
  have bb_7 : 7 < 128 := by omega
  have bb_x : x < 128 := by omega
  have bb_y : y < 128 := by omega
  obtain ⟨T1, e1⟩ : ∃ S : List tc_Tok, S = T ++ (tc_addTo lv y 7).1 := ⟨_, rfl⟩
  have m1 : T1.length = T.length + 9 := by rw [e1, List.length_append]; rfl
  have l0 : T.length + 9 ≤ 1000 := by omega
  obtain ⟨T2, e2⟩ : ∃ S : List tc_Tok, S = T1 ++ (tc_pour lv 7 x 1).1 := ⟨_, rfl⟩
  have m2 : T2.length = T1.length + 4 := by rw [e2, List.length_append]; rfl
  have l1 : T1.length + 4 ≤ 1000 := by omega
  have en : T2 = T ++ (tc_seq (tc_addTo lv y 7) (tc_pour lv 7 x 1)).1 := by rw [e2, e1]; exact tc_ews2 T lv x y
  have hwn : tc_Wr C post T2 wt ns tasks := tc_wr_cast en hw
  have p0 := hp
  have h0 := hh
  refine br_f (by decide) (br_f (by decide) (br_f (by decide) (br_f (by decide) (br_t rfl (?_)))))
  refine tc_waddTo lv y 7 e1 l0 bb_y bb_7 (fun o1 a1 p1 h1 => ?_) p0 h0
  refine tc_wpour lv 7 x 1 e2 l1 bb_7 bb_x (fun o2 a2 p2 h2 => ?_) p1 h1
  exact hwn o2 a2 p2 h2
theorem tc_ews3 (T : List tc_Tok) (lv : Bool) (x y : Nat) : T ++ (tc_addTo lv y 7).1 ++ (tc_pour lv 7 x (-1)).1 = T ++ (tc_seq (tc_addTo lv y 7) (tc_pour lv 7 x (-1))).1 := by
  simp only [tc_seq, tc_loop, tc_tok, List.append_assoc, List.cons_append, List.nil_append]
theorem tc_ws3 {C : tc_C} {post : SX → Prop} {T : List tc_Tok} {wt ns : Int32} {tasks ops args : Nat → Int32} (lv : Bool) (x y : Nat) (z : Int32) (hl : T.length + 100 ≤ 1000) (hx : x < 6) (hy : y < 6) (hw : tc_Wr C post (T ++ (tc_seq (tc_addTo lv y 7) (tc_pour lv 7 x (-1))).1) wt ns tasks) (hp : tc_pl 0 T < 128) (hh : tc_hold ops args 0 (tc_em 0 T)) : wpX_writeSimple post (C.1, C.2.1, C.2.2.1, nI (tc_em 0 (T)).length, nI (tc_pl 0 (T)), wt, ns, C.2.2.2.1, C.2.2.2.2.1, C.2.2.2.2.2.1, C.2.2.2.2.2.2.1, C.2.2.2.2.2.2.2.1, C.2.2.2.2.2.2.2.2.1, C.2.2.2.2.2.2.2.2.2.1, C.2.2.2.2.2.2.2.2.2.2.1, ops, args, tasks, C.2.2.2.2.2.2.2.2.2.2.2) (nI 3) (nI x) (nI y) z := by
  delta wpX_writeSimple
  have bb_7 : 7 < 128 := by omega
  have bb_x : x < 128 := by omega
  have bb_y : y < 128 := by omega
  obtain ⟨T1, e1⟩ : ∃ S : List tc_Tok, S = T ++ (tc_addTo lv y 7).1 := ⟨_, rfl⟩
  have m1 : T1.length = T.length + 9 := by rw [e1, List.length_append]; rfl
  have l0 : T.length + 9 ≤ 1000 := by omega
  obtain ⟨T2, e2⟩ : ∃ S : List tc_Tok, S = T1 ++ (tc_pour lv 7 x (-1)).1 := ⟨_, rfl⟩
  have m2 : T2.length = T1.length + 4 := by rw [e2, List.length_append]; rfl
  have l1 : T1.length + 4 ≤ 1000 := by omega
  have en : T2 = T ++ (tc_seq (tc_addTo lv y 7) (tc_pour lv 7 x (-1))).1 := by rw [e2, e1]; exact tc_ews3 T lv x y
  have hwn : tc_Wr C post T2 wt ns tasks := tc_wr_cast en hw
  have p0 := hp
  have h0 := hh
  refine br_f (by decide) (br_f (by decide) (br_f (by decide) (br_f (by decide) (br_f (by decide) (br_t rfl (?_))))))
  refine tc_waddTo lv y 7 e1 l0 bb_y bb_7 (fun o1 a1 p1 h1 => ?_) p0 h0
  refine tc_wpour lv 7 x (-1) e2 l1 bb_7 bb_x (fun o2 a2 p2 h2 => ?_) p1 h1
  exact hwn o2 a2 p2 h2
theorem tc_ews7 (T : List tc_Tok) (lv : Bool) (x y : Nat) : T ++ (tc_addTo lv y 18).1 ++ (tc_walkOut lv).1 ++ (tc_lift lv).1 ++ (tc_walkBack lv).1 ++ (tc_clear lv x).1 ++ (tc_pour lv 19 x 1).1 = T ++ (tc_fetch lv x y).1 := by
  simp only [tc_fetch, tc_seq, tc_loop, tc_tok, List.append_assoc, List.cons_append, List.nil_append]
theorem tc_ws7 {C : tc_C} {post : SX → Prop} {T : List tc_Tok} {wt ns : Int32} {tasks ops args : Nat → Int32} (lv : Bool) (x y : Nat) (z : Int32) (hl : T.length + 100 ≤ 1000) (hx : x < 6) (hy : y < 6) (hw : tc_Wr C post (T ++ (tc_fetch lv x y).1) wt ns tasks) (hp : tc_pl 0 T < 128) (hh : tc_hold ops args 0 (tc_em 0 T)) : wpX_writeSimple post (C.1, C.2.1, C.2.2.1, nI (tc_em 0 (T)).length, nI (tc_pl 0 (T)), wt, ns, C.2.2.2.1, C.2.2.2.2.1, C.2.2.2.2.2.1, C.2.2.2.2.2.2.1, C.2.2.2.2.2.2.2.1, C.2.2.2.2.2.2.2.2.1, C.2.2.2.2.2.2.2.2.2.1, C.2.2.2.2.2.2.2.2.2.2.1, ops, args, tasks, C.2.2.2.2.2.2.2.2.2.2.2) (nI 7) (nI x) (nI y) z := by
  delta wpX_writeSimple
  have bb_18 : 18 < 128 := by omega
  have bb_19 : 19 < 128 := by omega
  have bb_x : x < 128 := by omega
  have bb_y : y < 128 := by omega
  obtain ⟨T1, e1⟩ : ∃ S : List tc_Tok, S = T ++ (tc_addTo lv y 18).1 := ⟨_, rfl⟩
  have m1 : T1.length = T.length + 9 := by rw [e1, List.length_append]; rfl
  have l0 : T.length + 9 ≤ 1000 := by omega
  obtain ⟨T2, e2⟩ : ∃ S : List tc_Tok, S = T1 ++ (tc_walkOut lv).1 := ⟨_, rfl⟩
  have m2 : T2.length = T1.length + 13 := by rw [e2, List.length_append]; rfl
  have l1 : T1.length + 13 ≤ 1000 := by omega
  obtain ⟨T3, e3⟩ : ∃ S : List tc_Tok, S = T2 ++ (tc_lift lv).1 := ⟨_, rfl⟩
  have m3 : T3.length = T2.length + 9 := by rw [e3, List.length_append]; rfl
  have l2 : T2.length + 9 ≤ 1000 := by omega
  obtain ⟨T4, e4⟩ : ∃ S : List tc_Tok, S = T3 ++ (tc_walkBack lv).1 := ⟨_, rfl⟩
  have m4 : T4.length = T3.length + 8 := by rw [e4, List.length_append]; rfl
  have l3 : T3.length + 8 ≤ 1000 := by omega
  obtain ⟨T5, e5⟩ : ∃ S : List tc_Tok, S = T4 ++ (tc_clear lv x).1 := ⟨_, rfl⟩
  have m5 : T5.length = T4.length + 3 := by rw [e5, List.length_append]; rfl
  have l4 : T4.length + 3 ≤ 1000 := by omega
  obtain ⟨T6, e6⟩ : ∃ S : List tc_Tok, S = T5 ++ (tc_pour lv 19 x 1).1 := ⟨_, rfl⟩
  have m6 : T6.length = T5.length + 4 := by rw [e6, List.length_append]; rfl
  have l5 : T5.length + 4 ≤ 1000 := by omega
  have en : T6 = T ++ (tc_fetch lv x y).1 := by rw [e6, e5, e4, e3, e2, e1]; exact tc_ews7 T lv x y
  have hwn : tc_Wr C post T6 wt ns tasks := tc_wr_cast en hw
  have p0 := hp
  have h0 := hh
  refine br_f (by decide) (br_f (by decide) (br_f (by decide) (br_f (by decide) (br_f (by decide) (br_f (by decide) (br_f (by decide) (br_f (by decide) (br_f (by decide) (br_t rfl (?_))))))))))
  refine tc_waddTo lv y 18 e1 l0 bb_y bb_18 (fun o1 a1 p1 h1 => ?_) p0 h0
  refine tc_wwalkOut lv e2 l1 (fun o2 a2 p2 h2 => ?_) p1 h1
  refine tc_wlift lv e3 l2 (fun o3 a3 p3 h3 => ?_) p2 h2
  refine tc_wwalkBack lv e4 l3 (fun o4 a4 p4 h4 => ?_) p3 h3
  refine tc_wclear lv x e5 l4 bb_x (fun o5 a5 p5 h5 => ?_) p4 h4
  refine tc_wpour lv 19 x 1 e6 l5 bb_19 bb_x (fun o6 a6 p6 h6 => ?_) p5 h5
  exact hwn o6 a6 p6 h6
theorem tc_ews8 (T : List tc_Tok) (lv : Bool) (x y : Nat) : T ++ (tc_addTo lv x 18).1 ++ (tc_addTo lv y 19).1 ++ (tc_walkOut lv).1 ++ (tc_clear lv 17).1 ++ (tc_pour lv 19 17 1).1 ++ (tc_walkBack lv).1 = T ++ (tc_store lv x y).1 := by
  simp only [tc_store, tc_seq, tc_loop, tc_tok, List.append_assoc, List.cons_append, List.nil_append]
theorem tc_ws8 {C : tc_C} {post : SX → Prop} {T : List tc_Tok} {wt ns : Int32} {tasks ops args : Nat → Int32} (lv : Bool) (x y : Nat) (z : Int32) (hl : T.length + 100 ≤ 1000) (hx : x < 6) (hy : y < 6) (hw : tc_Wr C post (T ++ (tc_store lv x y).1) wt ns tasks) (hp : tc_pl 0 T < 128) (hh : tc_hold ops args 0 (tc_em 0 T)) : wpX_writeSimple post (C.1, C.2.1, C.2.2.1, nI (tc_em 0 (T)).length, nI (tc_pl 0 (T)), wt, ns, C.2.2.2.1, C.2.2.2.2.1, C.2.2.2.2.2.1, C.2.2.2.2.2.2.1, C.2.2.2.2.2.2.2.1, C.2.2.2.2.2.2.2.2.1, C.2.2.2.2.2.2.2.2.2.1, C.2.2.2.2.2.2.2.2.2.2.1, ops, args, tasks, C.2.2.2.2.2.2.2.2.2.2.2) (nI 8) (nI x) (nI y) z := by
  delta wpX_writeSimple
  have bb_17 : 17 < 128 := by omega
  have bb_18 : 18 < 128 := by omega
  have bb_19 : 19 < 128 := by omega
  have bb_x : x < 128 := by omega
  have bb_y : y < 128 := by omega
  obtain ⟨T1, e1⟩ : ∃ S : List tc_Tok, S = T ++ (tc_addTo lv x 18).1 := ⟨_, rfl⟩
  have m1 : T1.length = T.length + 9 := by rw [e1, List.length_append]; rfl
  have l0 : T.length + 9 ≤ 1000 := by omega
  obtain ⟨T2, e2⟩ : ∃ S : List tc_Tok, S = T1 ++ (tc_addTo lv y 19).1 := ⟨_, rfl⟩
  have m2 : T2.length = T1.length + 9 := by rw [e2, List.length_append]; rfl
  have l1 : T1.length + 9 ≤ 1000 := by omega
  obtain ⟨T3, e3⟩ : ∃ S : List tc_Tok, S = T2 ++ (tc_walkOut lv).1 := ⟨_, rfl⟩
  have m3 : T3.length = T2.length + 13 := by rw [e3, List.length_append]; rfl
  have l2 : T2.length + 13 ≤ 1000 := by omega
  obtain ⟨T4, e4⟩ : ∃ S : List tc_Tok, S = T3 ++ (tc_clear lv 17).1 := ⟨_, rfl⟩
  have m4 : T4.length = T3.length + 3 := by rw [e4, List.length_append]; rfl
  have l3 : T3.length + 3 ≤ 1000 := by omega
  obtain ⟨T5, e5⟩ : ∃ S : List tc_Tok, S = T4 ++ (tc_pour lv 19 17 1).1 := ⟨_, rfl⟩
  have m5 : T5.length = T4.length + 4 := by rw [e5, List.length_append]; rfl
  have l4 : T4.length + 4 ≤ 1000 := by omega
  obtain ⟨T6, e6⟩ : ∃ S : List tc_Tok, S = T5 ++ (tc_walkBack lv).1 := ⟨_, rfl⟩
  have m6 : T6.length = T5.length + 8 := by rw [e6, List.length_append]; rfl
  have l5 : T5.length + 8 ≤ 1000 := by omega
  have en : T6 = T ++ (tc_store lv x y).1 := by rw [e6, e5, e4, e3, e2, e1]; exact tc_ews8 T lv x y
  have hwn : tc_Wr C post T6 wt ns tasks := tc_wr_cast en hw
  have p0 := hp
  have h0 := hh
  refine br_f (by decide) (br_f (by decide) (br_f (by decide) (br_f (by decide) (br_f (by decide) (br_f (by decide) (br_f (by decide) (br_f (by decide) (br_f (by decide) (br_f (by decide) (br_t rfl (?_)))))))))))
  refine tc_waddTo lv x 18 e1 l0 bb_x bb_18 (fun o1 a1 p1 h1 => ?_) p0 h0
  refine tc_waddTo lv y 19 e2 l1 bb_y bb_19 (fun o2 a2 p2 h2 => ?_) p1 h1
  refine tc_wwalkOut lv e3 l2 (fun o3 a3 p3 h3 => ?_) p2 h2
  refine tc_wclear lv 17 e4 l3 bb_17 (fun o4 a4 p4 h4 => ?_) p3 h3
  refine tc_wpour lv 19 17 1 e5 l4 bb_19 bb_17 (fun o5 a5 p5 h5 => ?_) p4 h4
  refine tc_wwalkBack lv e6 l5 (fun o6 a6 p6 h6 => ?_) p5 h5
  exact hwn o6 a6 p6 h6
theorem tc_ews9 (T : List tc_Tok) (lv : Bool) (x y : Nat) : T ++ [(4, x, 0)] = T ++ (tc_tok (4, x, 0)).1 := by
  simp only [tc_seq, tc_loop, tc_tok, List.append_assoc, List.cons_append, List.nil_append]
theorem tc_ws9 {C : tc_C} {post : SX → Prop} {T : List tc_Tok} {wt ns : Int32} {tasks ops args : Nat → Int32} (lv : Bool) (x y : Nat) (z : Int32) (hl : T.length + 100 ≤ 1000) (hx : x < 6)  (hw : tc_Wr C post (T ++ (tc_tok (4, x, 0)).1) wt ns tasks) (hp : tc_pl 0 T < 128) (hh : tc_hold ops args 0 (tc_em 0 T)) : wpX_writeSimple post (C.1, C.2.1, C.2.2.1, nI (tc_em 0 (T)).length, nI (tc_pl 0 (T)), wt, ns, C.2.2.2.1, C.2.2.2.2.1, C.2.2.2.2.2.1, C.2.2.2.2.2.2.1, C.2.2.2.2.2.2.2.1, C.2.2.2.2.2.2.2.2.1, C.2.2.2.2.2.2.2.2.2.1, C.2.2.2.2.2.2.2.2.2.2.1, ops, args, tasks, C.2.2.2.2.2.2.2.2.2.2.2) (nI 9) (nI x) (nI y) z := by
  delta wpX_writeSimple
  have bb_x : x < 128 := by omega
  obtain ⟨T1, e1⟩ : ∃ S : List tc_Tok, S = T ++ [(4, x, 0)] := ⟨_, rfl⟩
  have m1 : T1.length = T.length + 1 := by rw [e1, List.length_append]; rfl
  have l0 : T.length + 1 ≤ 1000 := by omega
  have en : T1 = T ++ (tc_tok (4, x, 0)).1 := by rw [e1]; exact tc_ews9 T lv x y
  have hwn : tc_Wr C post T1 wt ns tasks := tc_wr_cast en hw
  have p0 := hp
  have h0 := hh
  refine br_f (by decide) (br_f (by decide) (br_f (by decide) (br_f (by decide) (br_f (by decide) (br_f (by decide) (br_f (by decide) (br_f (by decide) (br_f (by decide) (br_f (by decide) (br_f (by decide) (br_t rfl (?_))))))))))))
  refine tc_put 4 x 0 e1 l0 bb_x (fun o1 a1 p1 h1 => ?_) p0 h0
  exact hwn o1 a1 p1 h1
theorem tc_ws4 {C : tc_C} {post : SX → Prop} {T : List tc_Tok} {wt ns : Int32} {tasks ops args : Nat → Int32} (lv : Bool) (x y z : Nat) (hl : T.length + 100 ≤ 1000) (hx : x < 6) (hy : y < 6) (hz : z < 6) (hw : tc_Wr C post (T ++ (tc_product lv x y z).1) wt ns tasks) (hp : tc_pl 0 T < 128) (hh : tc_hold ops args 0 (tc_em 0 T)) : wpX_writeSimple post (C.1, C.2.1, C.2.2.1, nI (tc_em 0 (T)).length, nI (tc_pl 0 (T)), wt, ns, C.2.2.2.1, C.2.2.2.2.1, C.2.2.2.2.2.1, C.2.2.2.2.2.2.1, C.2.2.2.2.2.2.2.1, C.2.2.2.2.2.2.2.2.1, C.2.2.2.2.2.2.2.2.2.1, C.2.2.2.2.2.2.2.2.2.2.1, ops, args, tasks, C.2.2.2.2.2.2.2.2.2.2.2) (nI 4) (nI x) (nI y) (nI z) := by
  delta wpX_writeSimple
  exact br_f (by decide) (br_f (by decide) (br_f (by decide) (br_f (by decide) (br_f (by decide) (br_f (by decide) (br_t rfl (tc_wproduct lv x y z rfl hl hx hy hz (fun o a p h => hw o a p h) hp hh)))))))
theorem tc_ws5 {C : tc_C} {post : SX → Prop} {T : List tc_Tok} {wt ns : Int32} {tasks ops args : Nat → Int32} (lv : Bool) (x y z : Nat) (hl : T.length + 100 ≤ 1000) (hx : x < 6) (hy : y < 6) (hz : z < 6) (hw : tc_Wr C post (T ++ (tc_less lv x y z).1) wt ns tasks) (hp : tc_pl 0 T < 128) (hh : tc_hold ops args 0 (tc_em 0 T)) : wpX_writeSimple post (C.1, C.2.1, C.2.2.1, nI (tc_em 0 (T)).length, nI (tc_pl 0 (T)), wt, ns, C.2.2.2.1, C.2.2.2.2.1, C.2.2.2.2.2.1, C.2.2.2.2.2.2.1, C.2.2.2.2.2.2.2.1, C.2.2.2.2.2.2.2.2.1, C.2.2.2.2.2.2.2.2.2.1, C.2.2.2.2.2.2.2.2.2.2.1, ops, args, tasks, C.2.2.2.2.2.2.2.2.2.2.2) (nI 5) (nI x) (nI y) (nI z) := by
  delta wpX_writeSimple
  exact br_f (by decide) (br_f (by decide) (br_f (by decide) (br_f (by decide) (br_f (by decide) (br_f (by decide) (br_f (by decide) (br_t rfl (tc_wless lv x y z rfl hl hx hy hz (fun o a p h => hw o a p h) hp hh))))))))
theorem tc_ws6 {C : tc_C} {post : SX → Prop} {T : List tc_Tok} {wt ns : Int32} {tasks ops args : Nat → Int32} (lv : Bool) (x y z : Nat) (hl : T.length + 100 ≤ 1000) (hx : x < 6) (hy : y < 6) (hz : z < 6) (hw : tc_Wr C post (T ++ (tc_equal lv x y z).1) wt ns tasks) (hp : tc_pl 0 T < 128) (hh : tc_hold ops args 0 (tc_em 0 T)) : wpX_writeSimple post (C.1, C.2.1, C.2.2.1, nI (tc_em 0 (T)).length, nI (tc_pl 0 (T)), wt, ns, C.2.2.2.1, C.2.2.2.2.1, C.2.2.2.2.2.1, C.2.2.2.2.2.2.1, C.2.2.2.2.2.2.2.1, C.2.2.2.2.2.2.2.2.1, C.2.2.2.2.2.2.2.2.2.1, C.2.2.2.2.2.2.2.2.2.2.1, ops, args, tasks, C.2.2.2.2.2.2.2.2.2.2.2) (nI 6) (nI x) (nI y) (nI z) := by
  delta wpX_writeSimple
  exact br_f (by decide) (br_f (by decide) (br_f (by decide) (br_f (by decide) (br_f (by decide) (br_f (by decide) (br_f (by decide) (br_f (by decide) (br_t rfl (tc_wequal lv x y z rfl hl hx hy hz (fun o a p h => hw o a p h) hp hh)))))))))
theorem tc_ws13 {C : tc_C} {post : SX → Prop} {T : List tc_Tok} {wt ns : Int32} {tasks ops args : Nat → Int32} (lv : Bool) (x y z : Nat) (hl : T.length + 100 ≤ 1000) (hx : x < 6) (hy : y < 6) (hz : z < 6) (hw : tc_Wr C post (T ++ (tc_quot lv x y z).1) wt ns tasks) (hp : tc_pl 0 T < 128) (hh : tc_hold ops args 0 (tc_em 0 T)) : wpX_writeSimple post (C.1, C.2.1, C.2.2.1, nI (tc_em 0 (T)).length, nI (tc_pl 0 (T)), wt, ns, C.2.2.2.1, C.2.2.2.2.1, C.2.2.2.2.2.1, C.2.2.2.2.2.2.1, C.2.2.2.2.2.2.2.1, C.2.2.2.2.2.2.2.2.1, C.2.2.2.2.2.2.2.2.2.1, C.2.2.2.2.2.2.2.2.2.2.1, ops, args, tasks, C.2.2.2.2.2.2.2.2.2.2.2) (nI 13) (nI x) (nI y) (nI z) := by
  delta wpX_writeSimple
  exact br_f (by decide) (br_t (by decide) (tc_wquot lv x y z rfl hl hx hy hz (fun o a p h => hw o a p h) hp hh))
theorem tc_wsimple {C : tc_C} {post : SX → Prop} {T : List tc_Tok} {wt ns : Int32} {tasks ops args : Nat → Int32} (lv : Bool) (k x y z : Nat) (hl : T.length + 100 ≤ 1000) (hk : k ≤ 13) (k10 : k ≠ 10) (k11 : k ≠ 11) (k12 : k ≠ 12) (hx : x < 6) (hy : k ≠ 0 → k ≠ 9 → y < 6) (hz : k = 4 ∨ k = 5 ∨ k = 6 ∨ 9 < k → z < 6) (hw : tc_Wr C post (T ++ (tc_simple lv k x y z).1) wt ns tasks) (hp : tc_pl 0 T < 128) (hh : tc_hold ops args 0 (tc_em 0 T)) : wpX_writeSimple post (C.1, C.2.1, C.2.2.1, nI (tc_em 0 (T)).length, nI (tc_pl 0 (T)), wt, ns, C.2.2.2.1, C.2.2.2.2.1, C.2.2.2.2.2.1, C.2.2.2.2.2.2.1, C.2.2.2.2.2.2.2.1, C.2.2.2.2.2.2.2.2.1, C.2.2.2.2.2.2.2.2.2.1, C.2.2.2.2.2.2.2.2.2.2.1, ops, args, tasks, C.2.2.2.2.2.2.2.2.2.2.2) (nI k) (nI x) (nI y) (nI z) := by
  unfold tc_simple at hw
  by_cases k0 : k = 0
  · subst k0; exact tc_ws0 lv x y (nI z) hl hx hw hp hh
  rw [if_neg k0] at hw
  by_cases k9 : k = 9
  · subst k9; exact tc_ws9 lv x y (nI z) hl hx hw hp hh
  have hy6 := hy k0 k9
  by_cases k1 : k = 1
  · subst k1; exact tc_ws1 lv x y (nI z) hl hx hy6 hw hp hh
  rw [if_neg k1] at hw
  by_cases k2 : k = 2
  · subst k2; exact tc_ws2 lv x y (nI z) hl hx hy6 hw hp hh
  rw [if_neg k2] at hw
  by_cases k3 : k = 3
  · subst k3; exact tc_ws3 lv x y (nI z) hl hx hy6 hw hp hh
  rw [if_neg k3] at hw
  by_cases k4 : k = 4
  · subst k4; exact tc_ws4 lv x y z hl hx hy6 (hz (by omega)) hw hp hh
  rw [if_neg k4] at hw
  by_cases k5 : k = 5
  · subst k5; exact tc_ws5 lv x y z hl hx hy6 (hz (by omega)) hw hp hh
  rw [if_neg k5] at hw
  by_cases k6 : k = 6
  · subst k6; exact tc_ws6 lv x y z hl hx hy6 (hz (by omega)) hw hp hh
  rw [if_neg k6] at hw
  by_cases k7 : k = 7
  · subst k7; exact tc_ws7 lv x y (nI z) hl hx hy6 hw hp hh
  rw [if_neg k7] at hw
  by_cases k8 : k = 8
  · subst k8; exact tc_ws8 lv x y (nI z) hl hx hy6 hw hp hh
  rw [if_neg k8, if_neg k9] at hw
  have k13 : k = 13 := by omega
  subst k13
  exact tc_ws13 lv x y z hl hx hy6 (hz (by omega)) hw hp hh
end
section
/-! part 11: the writer's loop over what is still to be written (made by wip/whole/gen11.py) -/
theorem tc_cellT (ns : Nat) : 13 + 2 * nI ns = nI (13 + 2 * ns) := by
  rw [show (13 : Int32) = nI 13 from rfl, show (2 : Int32) = nI 2 from rfl, pk_mul, nI_add]
theorem tc_cellO (ns : Nat) : 13 + 2 * nI ns + 1 = nI (14 + 2 * ns) := by
  rw [tc_cellT, nI_1]
  exact congrArg nI (by omega)
theorem tc_ne {v c : Nat} (hv : v < 1000) (hc : c < 1000) (h : v ≠ c) : ¬ nI v = nI c := fun e => h ((nI_eq (by omega) (by omega)).mp e)
theorem tc_wturns {C : tc_C} {P : Int32 → Prop} {T : List tc_Tok} {wt : Int32} {ns : Nat} {tasks ops args : Nat → Int32} (h : P (nI (13 + 2 * ns))) : wpX_turnsCell P (C.1, C.2.1, C.2.2.1, nI (tc_em 0 (T)).length, nI (tc_pl 0 (T)), wt, nI ns, C.2.2.2.1, C.2.2.2.2.1, C.2.2.2.2.2.1, C.2.2.2.2.2.2.1, C.2.2.2.2.2.2.2.1, C.2.2.2.2.2.2.2.2.1, C.2.2.2.2.2.2.2.2.2.1, C.2.2.2.2.2.2.2.2.2.2.1, ops, args, tasks, C.2.2.2.2.2.2.2.2.2.2.2) := by
  show P (13 + 2 * nI ns)
  rw [tc_cellT]
  exact h
theorem tc_wother {C : tc_C} {P : Int32 → Prop} {T : List tc_Tok} {wt : Int32} {ns : Nat} {tasks ops args : Nat → Int32} (h : P (nI (14 + 2 * ns))) : wpX_otherwiseCell P (C.1, C.2.1, C.2.2.1, nI (tc_em 0 (T)).length, nI (tc_pl 0 (T)), wt, nI ns, C.2.2.2.1, C.2.2.2.2.1, C.2.2.2.2.2.1, C.2.2.2.2.2.2.1, C.2.2.2.2.2.2.2.1, C.2.2.2.2.2.2.2.2.1, C.2.2.2.2.2.2.2.2.2.1, C.2.2.2.2.2.2.2.2.2.2.1, ops, args, tasks, C.2.2.2.2.2.2.2.2.2.2.2) := by
  show P (13 + 2 * nI ns + 1)
  rw [tc_cellO]
  exact h
theorem tc_wlater {C : tc_C} {post : SX → Prop} {T : List tc_Tok} {wt : Nat} {ns p : Int32} {tasks ops args : Nat → Int32} (v : Nat) (e : p = nI v) (hwt : wt < 64) (h : post (C.1, C.2.1, C.2.2.1, nI (tc_em 0 (T)).length, nI (tc_pl 0 (T)), nI (wt + 1), ns, C.2.2.2.1, C.2.2.2.2.1, C.2.2.2.2.2.1, C.2.2.2.2.2.2.1, C.2.2.2.2.2.2.2.1, C.2.2.2.2.2.2.2.2.1, C.2.2.2.2.2.2.2.2.2.1, C.2.2.2.2.2.2.2.2.2.2.1, ops, args, upd tasks wt (nI v), C.2.2.2.2.2.2.2.2.2.2.2)) : wpX_writeLater post (C.1, C.2.1, C.2.2.1, nI (tc_em 0 (T)).length, nI (tc_pl 0 (T)), nI wt, ns, C.2.2.2.1, C.2.2.2.2.1, C.2.2.2.2.2.1, C.2.2.2.2.2.2.1, C.2.2.2.2.2.2.2.1, C.2.2.2.2.2.2.2.2.1, C.2.2.2.2.2.2.2.2.2.1, C.2.2.2.2.2.2.2.2.2.2.1, ops, args, tasks, C.2.2.2.2.2.2.2.2.2.2.2) p := by
  subst e
  have cl : (nI wt).toNatClampNeg = wt := nI_clamp (by omega)
  delta wpX_writeLater
  refine br_f (nI_ge (b := 64) hwt (by decide)) ⟨vp_in_nI hwt (by omega), nm_e (nm_r (nI_1 wt) ?_)⟩
  rw [cl]
  exact h
theorem tc_wchoose {C : tc_C} {post : SX → Prop} {T T' : List tc_Tok} {tasks ops args : Nat → Int32} {wt ns : Nat} {p0 p1 p2 : Int32} (lv : Bool) (x y z : Nat) (ex : p0 = nI x) (ey : p1 = nI y) (ez : p2 = nI z) (eT : T' = T ++ ((tc_addTo lv x (13 + 2 * ns)).1 ++ ((1, 14 + 2 * ns, 1) :: (2, 13 + 2 * ns, 0) :: (1, 14 + 2 * ns, -1) :: (tc_clear lv (13 + 2 * ns)).1))) (hl : T.length + 20 ≤ 1000) (hx : x < 6) (hns : ns ≤ 1) (hwt : wt + 4 ≤ 64) (hw : tc_Wr C post T' (nI (wt + 4)) (nI (ns + 1)) (upd (upd (upd (upd tasks wt (nI 41)) (wt + 1) (nI z)) (wt + 2) (nI 40)) (wt + 3) (nI y))) (hp : tc_pl 0 T < 128) (hh : tc_hold ops args 0 (tc_em 0 T)) : wpX_writeChoose post (C.1, C.2.1, C.2.2.1, nI (tc_em 0 (T)).length, nI (tc_pl 0 (T)), nI wt, nI ns, C.2.2.2.1, C.2.2.2.2.1, C.2.2.2.2.2.1, C.2.2.2.2.2.2.1, C.2.2.2.2.2.2.2.1, C.2.2.2.2.2.2.2.2.1, C.2.2.2.2.2.2.2.2.2.1, C.2.2.2.2.2.2.2.2.2.2.1, ops, args, tasks, C.2.2.2.2.2.2.2.2.2.2.2) p0 p1 p2 := by
  subst ex
  obtain ⟨T1, e1⟩ : ∃ S : List tc_Tok, S = T ++ (tc_addTo lv x (13 + 2 * ns)).1 := ⟨_, rfl⟩
  obtain ⟨T2, e2⟩ : ∃ S : List tc_Tok, S = T1 ++ [(1, 14 + 2 * ns, 1)] := ⟨_, rfl⟩
  obtain ⟨T3, e3⟩ : ∃ S : List tc_Tok, S = T2 ++ [(2, 13 + 2 * ns, 0)] := ⟨_, rfl⟩
  obtain ⟨T4, e4⟩ : ∃ S : List tc_Tok, S = T3 ++ [(1, 14 + 2 * ns, -1)] := ⟨_, rfl⟩
  have e5 : T' = T4 ++ (tc_clear lv (13 + 2 * ns)).1 := by
    rw [e4, e3, e2, e1, eT]
    simp only [List.append_assoc, List.cons_append, List.nil_append]
  have m1 : T1.length = T.length + 9 := by rw [e1, List.length_append]; rfl
  have m2 : T2.length = T1.length + 1 := by rw [e2, List.length_append]; rfl
  have m3 : T3.length = T2.length + 1 := by rw [e3, List.length_append]; rfl
  have m4 : T4.length = T3.length + 1 := by rw [e4, List.length_append]; rfl
  have b1 : 13 + 2 * ns < 128 := by omega
  have b2 : 14 + 2 * ns < 128 := by omega
  have bx : x < 128 := by omega
  have l0 : T.length + 9 ≤ 1000 := by omega
  have l1 : T1.length + 1 ≤ 1000 := by omega
  have l2 : T2.length + 1 ≤ 1000 := by omega
  have l3 : T3.length + 1 ≤ 1000 := by omega
  have l4 : T4.length + 3 ≤ 1000 := by omega
  have w0 : wt < 64 := by omega
  have w1 : wt + 1 < 64 := by omega
  have w2 : wt + 1 + 1 < 64 := by omega
  have w3 : wt + 1 + 1 + 1 < 64 := by omega
  delta wpX_writeChoose
  refine tc_wturns ?_
  refine tc_wother ?_
  refine tc_waddTo lv x (13 + 2 * ns) e1 l0 bx b1 (fun o1 a1 p1 h1 => ?_) hp hh
  refine tc_put 1 (14 + 2 * ns) 1 e2 l1 b2 (fun o2 a2 p2 h2 => ?_) p1 h1
  refine tc_put 2 (13 + 2 * ns) 0 e3 l2 b1 (fun o3 a3 p3 h3 => ?_) p2 h2
  refine tc_put 1 (14 + 2 * ns) (-1) e4 l3 b2 (fun o4 a4 p4 h4 => ?_) p3 h3
  refine tc_wclear lv (13 + 2 * ns) e5 l4 b1 (fun o5 a5 p5 h5 => ?_) p4 h4
  refine nm_r (nI_1 ns) ?_
  refine tc_wlater 41 rfl w0 ?_
  refine tc_wlater z ez w1 ?_
  refine tc_wlater 40 rfl w2 ?_
  refine tc_wlater y ey w3 ?_
  exact hw o5 a5 p5 h5
theorem tc_wrepeat {C : tc_C} {post : SX → Prop} {T T' : List tc_Tok} {tasks ops args : Nat → Int32} {wt ns : Nat} {p0 p1 : Int32} (lv : Bool) (x y : Nat) (ex : p0 = nI x) (ey : p1 = nI y) (eT : T' = T ++ ((tc_addTo lv x (13 + 2 * ns)).1 ++ [(2, 13 + 2 * ns, 0), (1, 13 + 2 * ns, -1)])) (hl : T.length + 20 ≤ 1000) (hx : x < 6) (hns : ns ≤ 1) (hwt : wt + 2 ≤ 64) (hw : tc_Wr C post T' (nI (wt + 2)) (nI (ns + 1)) (upd (upd tasks wt (nI 42)) (wt + 1) (nI y))) (hp : tc_pl 0 T < 128) (hh : tc_hold ops args 0 (tc_em 0 T)) : wpX_writeRepeat post (C.1, C.2.1, C.2.2.1, nI (tc_em 0 (T)).length, nI (tc_pl 0 (T)), nI wt, nI ns, C.2.2.2.1, C.2.2.2.2.1, C.2.2.2.2.2.1, C.2.2.2.2.2.2.1, C.2.2.2.2.2.2.2.1, C.2.2.2.2.2.2.2.2.1, C.2.2.2.2.2.2.2.2.2.1, C.2.2.2.2.2.2.2.2.2.2.1, ops, args, tasks, C.2.2.2.2.2.2.2.2.2.2.2) p0 p1 := by
  subst ex
  obtain ⟨T1, e1⟩ : ∃ S : List tc_Tok, S = T ++ (tc_addTo lv x (13 + 2 * ns)).1 := ⟨_, rfl⟩
  obtain ⟨T2, e2⟩ : ∃ S : List tc_Tok, S = T1 ++ [(2, 13 + 2 * ns, 0)] := ⟨_, rfl⟩
  have e3 : T' = T2 ++ [(1, 13 + 2 * ns, -1)] := by
    rw [e2, e1, eT]
    simp only [List.append_assoc, List.cons_append, List.nil_append]
  have m1 : T1.length = T.length + 9 := by rw [e1, List.length_append]; rfl
  have m2 : T2.length = T1.length + 1 := by rw [e2, List.length_append]; rfl
  have b1 : 13 + 2 * ns < 128 := by omega
  have bx : x < 128 := by omega
  have l0 : T.length + 9 ≤ 1000 := by omega
  have l1 : T1.length + 1 ≤ 1000 := by omega
  have l2 : T2.length + 1 ≤ 1000 := by omega
  have w0 : wt < 64 := by omega
  have w1 : wt + 1 < 64 := by omega
  delta wpX_writeRepeat
  refine tc_wturns ?_
  refine tc_waddTo lv x (13 + 2 * ns) e1 l0 bx b1 (fun o1 a1 p1 h1 => ?_) hp hh
  refine tc_put 2 (13 + 2 * ns) 0 e2 l1 b1 (fun o2 a2 p2 h2 => ?_) p1 h1
  refine tc_put 1 (13 + 2 * ns) (-1) e3 l2 b1 (fun o3 a3 p3 h3 => ?_) p2 h2
  refine nm_r (nI_1 ns) ?_
  refine tc_wlater 42 rfl w0 ?_
  refine tc_wlater y ey w1 ?_
  exact hw o3 a3 p3 h3
theorem tc_wotherwise {C : tc_C} {post : SX → Prop} {T T' : List tc_Tok} {tasks ops args : Nat → Int32} {wt : Int32} {ns : Nat} (eT : T' = T ++ [(3, 13 + 2 * ns, 0), (2, 14 + 2 * ns, 0), (1, 14 + 2 * ns, -1)]) (hl : T.length + 20 ≤ 1000) (hns : ns ≤ 1) (hw : tc_Wr C post T' wt (nI (ns + 1)) tasks) (hp : tc_pl 0 T < 128) (hh : tc_hold ops args 0 (tc_em 0 T)) : wpX_writeOtherwise post (C.1, C.2.1, C.2.2.1, nI (tc_em 0 (T)).length, nI (tc_pl 0 (T)), wt, nI (ns + 1), C.2.2.2.1, C.2.2.2.2.1, C.2.2.2.2.2.1, C.2.2.2.2.2.2.1, C.2.2.2.2.2.2.2.1, C.2.2.2.2.2.2.2.2.1, C.2.2.2.2.2.2.2.2.2.1, C.2.2.2.2.2.2.2.2.2.2.1, ops, args, tasks, C.2.2.2.2.2.2.2.2.2.2.2) := by
  obtain ⟨T1, e1⟩ : ∃ S : List tc_Tok, S = T ++ [(3, 13 + 2 * ns, 0)] := ⟨_, rfl⟩
  obtain ⟨T2, e2⟩ : ∃ S : List tc_Tok, S = T1 ++ [(2, 14 + 2 * ns, 0)] := ⟨_, rfl⟩
  have e3 : T' = T2 ++ [(1, 14 + 2 * ns, -1)] := by
    rw [e2, e1, eT]
    simp only [List.append_assoc, List.cons_append, List.nil_append]
  have m1 : T1.length = T.length + 1 := by rw [e1, List.length_append]; rfl
  have m2 : T2.length = T1.length + 1 := by rw [e2, List.length_append]; rfl
  have b1 : 13 + 2 * ns < 128 := by omega
  have b2 : 14 + 2 * ns < 128 := by omega
  have l0 : T.length + 1 ≤ 1000 := by omega
  have l1 : T1.length + 1 ≤ 1000 := by omega
  have l2 : T2.length + 1 ≤ 1000 := by omega
  delta wpX_writeOtherwise
  refine nm_r (nI_pred ns) ?_
  refine tc_wturns ?_
  refine tc_wother ?_
  refine tc_put 3 (13 + 2 * ns) 0 e1 l0 b1 (fun o1 a1 p1 h1 => ?_) hp hh
  refine tc_put 2 (14 + 2 * ns) 0 e2 l1 b2 (fun o2 a2 p2 h2 => ?_) p1 h1
  refine tc_put 1 (14 + 2 * ns) (-1) e3 l2 b2 (fun o3 a3 p3 h3 => ?_) p2 h2
  refine nm_r (nI_1 ns) ?_
  exact hw o3 a3 p3 h3
def tc_tk (tasks : Nat → Int32) : List Nat → Prop
  | [] => True
  | v :: r => tasks r.length = nI v ∧ tc_tk tasks r
theorem tc_tk_congr {a b : Nat → Int32} : ∀ q : List Nat, (∀ j, j < q.length → b j = a j) → tc_tk a q → tc_tk b q
  | [], _, _ => trivial
  | v :: r, h, hk => ⟨(h r.length (Nat.lt_succ_self _)).trans hk.1, tc_tk_congr r (fun j hj => h j (Nat.lt_succ_of_lt hj)) hk.2⟩
theorem tc_tk_push {a : Nat → Int32} {q : List Nat} (v : Nat) (h : tc_tk a q) : tc_tk (upd a q.length (nI v)) (v :: q) :=
  ⟨pk_us, tc_tk_congr q (fun j hj => pk_un (by omega)) h⟩
section
variable (K X Y Z Wt Nt : Nat → Nat)
def tc_rest (lv : Bool) : List Nat → Nat → List tc_Tok
  | [], _ => []
  | v :: r, ns =>
    if v = 40 then [(3, 13 + 2 * (ns - 1), 0), (2, 14 + 2 * (ns - 1), 0), (1, 14 + 2 * (ns - 1), -1)] ++ tc_rest lv r ns
    else if v = 41 then (3, 14 + 2 * (ns - 1), 0) :: tc_rest lv r (ns - 1)
    else if v = 42 then (3, 13 + 2 * (ns - 1), 0) :: tc_rest lv r (ns - 1)
    else (tc_cd K X Y Z lv 40 v ns).1 ++ tc_rest lv r ns
def tc_tn : List Nat → Nat
  | [] => 0
  | v :: r => (if 40 ≤ v then 1 else 3 * Wt v - 2) + tc_tn r
def tc_qv (n : Nat) : List Nat → Nat → Prop
  | [], ns => ns = 0
  | v :: r, ns =>
    if v = 40 then 1 ≤ ns ∧ ns ≤ 2 ∧ tc_qv n r ns
    else if v = 41 then 1 ≤ ns ∧ ns ≤ 2 ∧ tc_qv n r (ns - 1)
    else if v = 42 then 1 ≤ ns ∧ ns ≤ 2 ∧ tc_qv n r (ns - 1)
    else v < n ∧ ns + Nt v ≤ 2 ∧ tc_qv n r ns
end
theorem tc_rest_s (K X Y Z : Nat → Nat) (lv : Bool) (v : Nat) (r : List Nat) (ns : Nat) (h : v < 40) : tc_rest K X Y Z lv (v :: r) ns = (tc_cd K X Y Z lv 40 v ns).1 ++ tc_rest K X Y Z lv r ns := by
  show (if v = 40 then _ else if v = 41 then _ else if v = 42 then _ else _) = _
  rw [if_neg (by omega), if_neg (by omega), if_neg (by omega)]
theorem tc_qv_s {Nt : Nat → Nat} {n v : Nat} {r : List Nat} {ns : Nat} (h : v < 40) (h1 : v < n) (h2 : ns + Nt v ≤ 2) (h3 : tc_qv Nt n r ns) : tc_qv Nt n (v :: r) ns := by
  unfold tc_qv
  rw [if_neg (by omega), if_neg (by omega), if_neg (by omega)]
  exact ⟨h1, h2, h3⟩
theorem tc_tn_len {K X Y Z Wt Nt : Nat → Nat} {n : Nat} (ok : ∀ s, s < n → tc_Ok K X Y Z Wt Nt s) (hn : n ≤ 40) : ∀ (q : List Nat) (ns : Nat), tc_qv Nt n q ns → q.length ≤ tc_tn Wt q
  | [], _, _ => Nat.le_refl _
  | v :: r, ns, h => by
    show r.length + 1 ≤ (if 40 ≤ v then 1 else 3 * Wt v - 2) + tc_tn Wt r
    unfold tc_qv at h
    by_cases v40 : v = 40
    · rw [if_pos v40] at h
      have := tc_tn_len ok hn r _ h.2.2
      rw [if_pos (by omega)]
      omega
    rw [if_neg v40] at h
    by_cases v41 : v = 41
    · rw [if_pos v41] at h
      have := tc_tn_len ok hn r _ h.2.2
      rw [if_pos (by omega)]
      omega
    rw [if_neg v41] at h
    by_cases v42 : v = 42
    · rw [if_pos v42] at h
      have := tc_tn_len ok hn r _ h.2.2
      rw [if_pos (by omega)]
      omega
    rw [if_neg v42] at h
    have := tc_tn_len ok hn r _ h.2.2
    have := (ok v h.1).2.1
    have := h.1
    rw [if_neg (by omega)]
    omega
theorem tc_wcode {C : tc_C} {post : SX → Prop} {K X Y Z Wt Nt : Nat → Nat} (lv : Bool) (n : Nat) (hn : n ≤ 40) (ok : ∀ s, s < n → tc_Ok K X Y Z Wt Nt s) (hK : ∀ s, C.2.2.2.1 s = nI (K s)) (hX : ∀ s, C.2.2.2.2.1 s = nI (X s)) (hY : ∀ s, C.2.2.2.2.2.1 s = nI (Y s)) (hZ : ∀ s, C.2.2.2.2.2.2.1 s = nI (Z s)) :
    ∀ (fuel : Nat) (q : List Nat) (ns turn : Nat) (T : List tc_Tok) (tasks ops args : Nat → Int32), tc_tn Wt q < fuel → turn + tc_tn Wt q ≤ 64 → tc_qv Nt n q ns → tc_tk tasks q → T.length + (tc_rest K X Y Z lv q ns).length ≤ 900 →
      (∀ tasks', tc_Wr C post (T ++ tc_rest K X Y Z lv q ns) (nI 0) (nI 0) tasks') → tc_pl 0 T < 128 → tc_hold ops args 0 (tc_em 0 T) → wX_writeCode_27 post fuel (nI turn) C.1 C.2.1 C.2.2.1 (nI (tc_em 0 (T)).length) (nI (tc_pl 0 (T))) (nI q.length) (nI ns) C.2.2.2.1 C.2.2.2.2.1 C.2.2.2.2.2.1 C.2.2.2.2.2.2.1 C.2.2.2.2.2.2.2.1 C.2.2.2.2.2.2.2.2.1 C.2.2.2.2.2.2.2.2.2.1 C.2.2.2.2.2.2.2.2.2.2.1 ops args tasks C.2.2.2.2.2.2.2.2.2.2.2 := by
  intro fuel
  induction fuel with
  | zero => intro q ns turn T tasks ops args h; omega
  | succ fuel ih =>
    intro q ns turn T tasks ops args hf ht hv hk hlen hw hp hh
    have hql := tc_tn_len ok hn q ns hv
    cases q with
    | nil =>
      have hv : ns = 0 := hv
      subst hv
      have hw := tc_wr_cast (List.append_nil T).symm (hw tasks)
      by_cases h64 : turn = 64
      · subst h64
        exact br_t (nI_le (a := 64) (by omega) (by decide)) (hw ops args hp hh)
      · have : turn + 0 ≤ 64 := ht
        exact br_f (nI_ge (b := 64) (by omega) (by decide)) (br_t (nI_le (a := 0) (b := 0) (by omega) (by decide)) (hw ops args hp hh))
    | cons v r =>
      have hv' := hv
      have htn : tc_tn Wt (v :: r) = (if 40 ≤ v then 1 else 3 * Wt v - 2) + tc_tn Wt r := rfl
      have hrl : (v :: r).length = r.length + 1 := rfl
      have pos : 1 ≤ tc_tn Wt (v :: r) := by omega
      have hr64 : r.length < 64 := by omega
      have tk0 : tasks (nI r.length).toNatClampNeg = nI v := by rw [nI_clamp (by omega)]; exact hk.1
      refine br_f (nI_ge (b := 64) (by omega) (by decide)) (br_f (nI_ge (a := 0) (by omega) (by omega)) (nm_r (nI_pred r.length) ⟨vp_in_nI hr64 (by omega), nm_r tk0 ?_⟩))
      clear tk0
      by_cases v40 : v = 40
      · subst v40
        have hv2 : 1 ≤ ns ∧ ns ≤ 2 ∧ tc_qv Nt n r ns := hv
        obtain ⟨q1, q2, q3⟩ := hv2
        obtain ⟨ns', rfl⟩ : ∃ m, ns = m + 1 := ⟨ns - 1, by omega⟩
        have htn : tc_tn Wt (40 :: r) = 1 + tc_tn Wt r := rfl
        have hre : tc_rest K X Y Z lv (40 :: r) (ns' + 1) = [(3, 13 + 2 * ns', 0), (2, 14 + 2 * ns', 0), (1, 14 + 2 * ns', -1)] ++ tc_rest K X Y Z lv r (ns' + 1) := rfl
        rw [hre] at hlen hw
        have hl3 : ([(3, 13 + 2 * ns', 0), (2, 14 + 2 * ns', 0), (1, 14 + 2 * ns', -1)] ++ tc_rest K X Y Z lv r (ns' + 1)).length = 3 + (tc_rest K X Y Z lv r (ns' + 1)).length := by rw [List.length_append]; rfl
        rw [hl3] at hlen
        obtain ⟨T1, e1⟩ : ∃ S : List tc_Tok, S = T ++ [(3, 13 + 2 * ns', 0), (2, 14 + 2 * ns', 0), (1, 14 + 2 * ns', -1)] := ⟨_, rfl⟩
        have m1 : T1.length = T.length + 3 := by rw [e1, List.length_append]; rfl
        refine br_t rfl (tc_wotherwise e1 (by omega) (by omega) (fun o1 a1 p1 h1 => nm_r (nI_1 turn) (ih r (ns' + 1) (turn + 1) T1 tasks o1 a1 (by omega) (by omega) q3 hk.2 (by omega) (fun tk' => tc_wr_cast (by rw [e1, List.append_assoc]) (hw tk')) p1 h1)) hp hh)
      by_cases v41 : v = 41
      · subst v41
        have hv2 : 1 ≤ ns ∧ ns ≤ 2 ∧ tc_qv Nt n r (ns - 1) := hv
        obtain ⟨q1, q2, q3⟩ := hv2
        obtain ⟨ns', rfl⟩ : ∃ m, ns = m + 1 := ⟨ns - 1, by omega⟩
        have q3 : tc_qv Nt n r ns' := q3
        have htn : tc_tn Wt (41 :: r) = 1 + tc_tn Wt r := rfl
        have hre : tc_rest K X Y Z lv (41 :: r) (ns' + 1) = [(3, 14 + 2 * ns', 0)] ++ tc_rest K X Y Z lv r ns' := rfl
        rw [hre] at hlen hw
        rw [List.length_append, show ([(3, 14 + 2 * ns', 0)] : List tc_Tok).length = 1 from rfl] at hlen
        obtain ⟨T1, e1⟩ : ∃ S : List tc_Tok, S = T ++ [(3, 14 + 2 * ns', 0)] := ⟨_, rfl⟩
        have m1 : T1.length = T.length + 1 := by rw [e1, List.length_append]; rfl
        exact br_f (by decide) (br_t rfl (nm_r (nI_pred ns') (tc_wother (tc_put 3 (14 + 2 * ns') 0 e1 (by omega) (by omega) (fun o1 a1 p1 h1 => nm_r (nI_1 turn) (ih r ns' (turn + 1) T1 tasks o1 a1 (by omega) (by omega) q3 hk.2 (by omega) (fun tk' => tc_wr_cast (by rw [e1, List.append_assoc]) (hw tk')) p1 h1)) hp hh))))
      by_cases v42 : v = 42
      · subst v42
        have hv2 : 1 ≤ ns ∧ ns ≤ 2 ∧ tc_qv Nt n r (ns - 1) := hv
        obtain ⟨q1, q2, q3⟩ := hv2
        obtain ⟨ns', rfl⟩ : ∃ m, ns = m + 1 := ⟨ns - 1, by omega⟩
        have q3 : tc_qv Nt n r ns' := q3
        have htn : tc_tn Wt (42 :: r) = 1 + tc_tn Wt r := rfl
        have hre : tc_rest K X Y Z lv (42 :: r) (ns' + 1) = [(3, 13 + 2 * ns', 0)] ++ tc_rest K X Y Z lv r ns' := rfl
        rw [hre] at hlen hw
        rw [List.length_append, show ([(3, 13 + 2 * ns', 0)] : List tc_Tok).length = 1 from rfl] at hlen
        obtain ⟨T1, e1⟩ : ∃ S : List tc_Tok, S = T ++ [(3, 13 + 2 * ns', 0)] := ⟨_, rfl⟩
        have m1 : T1.length = T.length + 1 := by rw [e1, List.length_append]; rfl
        exact br_f (by decide) (br_f (by decide) (br_t rfl (nm_r (nI_pred ns') (tc_wturns (tc_put 3 (13 + 2 * ns') 0 e1 (by omega) (by omega) (fun o1 a1 p1 h1 => nm_r (nI_1 turn) (ih r ns' (turn + 1) T1 tasks o1 a1 (by omega) (by omega) q3 hk.2 (by omega) (fun tk' => tc_wr_cast (by rw [e1, List.append_assoc]) (hw tk')) p1 h1)) hp hh)))))
      have hv3 : v < n ∧ ns + Nt v ≤ 2 ∧ tc_qv Nt n r ns := by
        unfold tc_qv at hv
        rw [if_neg v40, if_neg v41, if_neg v42] at hv
        exact hv
      obtain ⟨q1, q2, q3⟩ := hv3
      rw [if_neg (by omega)] at htn
      have hre : tc_rest K X Y Z lv (v :: r) ns = (tc_cd K X Y Z lv 40 v ns).1 ++ tc_rest K X Y Z lv r ns := by
        show (if v = 40 then _ else if v = 41 then _ else if v = 42 then _ else _) = _
        rw [if_neg v40, if_neg v41, if_neg v42]
      rw [hre] at hlen hw
      rw [List.length_append] at hlen
      obtain ⟨o1', o2, o3, o4, o10, o11, o12, ox, oy0, oy, oz⟩ := ok v q1
      have clv : (nI v).toNatClampNeg = v := nI_clamp (by omega)
      have vin : vp_in (nI v) 40 := vp_in_nI (by omega) (by omega)
      have hKv : C.2.2.2.1 (nI v).toNatClampNeg = nI (K v) := by rw [clv]; exact hK v
      have hXv : C.2.2.2.2.1 (nI v).toNatClampNeg = nI (X v) := by rw [clv]; exact hX v
      have hYv : C.2.2.2.2.2.1 (nI v).toNatClampNeg = nI (Y v) := by rw [clv]; exact hY v
      have hZv : C.2.2.2.2.2.2.1 (nI v).toNatClampNeg = nI (Z v) := by rw [clv]; exact hZ v
      refine br_f (tc_ne (c := 40) (by omega) (by decide) v40) (br_f (tc_ne (c := 41) (by omega) (by decide) v41) (br_f (tc_ne (c := 42) (by omega) (by decide) v42) ⟨vin, ?_⟩))
      by_cases k10 : K v = 10
      · obtain ⟨c1, c2, c3, c4, c5⟩ := o10 k10
        have w1 := ok (X v) (by omega)
        have w2 := ok (Y v) (by omega)
        have ecd : (tc_cd K X Y Z lv 40 v ns).1 ++ tc_rest K X Y Z lv r ns = tc_rest K X Y Z lv (X v :: Y v :: r) ns := by
          have a1 : tc_rest K X Y Z lv (X v :: Y v :: r) ns = (tc_cd K X Y Z lv 40 (X v) ns).1 ++ ((tc_cd K X Y Z lv 40 (Y v) ns).1 ++ tc_rest K X Y Z lv r ns) := by
            rw [tc_rest_s _ _ _ _ _ _ _ _ (by omega), tc_rest_s _ _ _ _ _ _ _ _ (by omega)]
          rw [a1, ← List.append_assoc]
          refine congrArg (· ++ _) ?_
          have a2 : tc_cd K X Y Z lv 40 v ns = tc_seq (tc_cd K X Y Z lv 39 (X v) ns) (tc_cd K X Y Z lv 39 (Y v) ns) := by
            rw [tc_cd, if_pos k10]
          rw [a2, tc_cd_f K X Y Z Wt Nt lv n ok 39 40 (X v) ns (by omega) (by omega) (by omega), tc_cd_f K X Y Z Wt Nt lv n ok 39 40 (Y v) ns (by omega) (by omega) (by omega)]
          rfl
        have et : tc_tn Wt (X v :: Y v :: r) = 3 * Wt (X v) - 2 + (3 * Wt (Y v) - 2 + tc_tn Wt r) := by
          show (if 40 ≤ X v then 1 else 3 * Wt (X v) - 2) + ((if 40 ≤ Y v then 1 else 3 * Wt (Y v) - 2) + tc_tn Wt r) = _
          rw [if_neg (by omega), if_neg (by omega)]
        have eq' : tc_qv Nt n (X v :: Y v :: r) ns := tc_qv_s (by omega) (by omega) (by omega) (tc_qv_s (by omega) (by omega) (by omega) q3)
        have b1 := w1.2.1
        have b2 := w2.2.1
        have hq2 : r.length + 2 ≤ tc_tn Wt (X v :: Y v :: r) := tc_tn_len ok hn _ _ eq'
        refine br_t (hKv.trans (congrArg nI k10)) ⟨vin, tc_wlater (Y v) hYv hr64 ⟨vin, tc_wlater (X v) hXv (by omega) (nm_r (nI_1 turn) ?_)⟩⟩
        have hk2 := tc_tk_push (X v) (tc_tk_push (Y v) hk.2)
        rw [← List.length_append, ecd] at hlen
        exact ih (X v :: Y v :: r) ns (turn + 1) T _ ops args (by omega) (by omega) eq' hk2 hlen (fun tk' => tc_wr_cast (by rw [ecd]) (hw tk')) hp hh
      refine br_f (fun h => tc_ne (c := 10) (by omega) (by decide) k10 (hKv.symm.trans h)) ⟨vin, ?_⟩
      by_cases k11 : K v = 11
      · obtain ⟨c1, c2, c3, c4, c5⟩ := o11 k11
        have w1 := ok (Y v) (by omega)
        have w2 := ok (Z v) (by omega)
        have b1 := w1.2.1
        have b2 := w2.2.1
        obtain ⟨T1, e1⟩ : ∃ S : List tc_Tok, S = T ++ ((tc_addTo lv (X v) (13 + 2 * ns)).1 ++ ((1, 14 + 2 * ns, 1) :: (2, 13 + 2 * ns, 0) :: (1, 14 + 2 * ns, -1) :: (tc_clear lv (13 + 2 * ns)).1)) := ⟨_, rfl⟩
        have m1 : T1.length = T.length + 15 := by rw [e1, List.length_append]; rfl
        have ecd : T ++ ((tc_cd K X Y Z lv 40 v ns).1 ++ tc_rest K X Y Z lv r ns) = T1 ++ tc_rest K X Y Z lv (Y v :: 40 :: Z v :: 41 :: r) (ns + 1) := by
          have a1 : tc_rest K X Y Z lv (Y v :: 40 :: Z v :: 41 :: r) (ns + 1) = (tc_cd K X Y Z lv 40 (Y v) (ns + 1)).1 ++ ([(3, 13 + 2 * ns, 0), (2, 14 + 2 * ns, 0), (1, 14 + 2 * ns, -1)] ++ ((tc_cd K X Y Z lv 40 (Z v) (ns + 1)).1 ++ ((3, 14 + 2 * ns, 0) :: tc_rest K X Y Z lv r ns))) := by
            rw [tc_rest_s _ _ _ _ _ _ _ _ (by omega)]
            show _ ++ ([(3, 13 + 2 * ns, 0), (2, 14 + 2 * ns, 0), (1, 14 + 2 * ns, -1)] ++ tc_rest K X Y Z lv (Z v :: 41 :: r) (ns + 1)) = _
            rw [tc_rest_s _ _ _ _ _ _ _ _ (by omega)]
            rfl
          have a2 : tc_cd K X Y Z lv 40 v ns = tc_choose lv (X v) ns (tc_cd K X Y Z lv 39 (Y v) (ns + 1)) (tc_cd K X Y Z lv 39 (Z v) (ns + 1)) := by
            rw [tc_cd, if_neg k10, if_pos k11]
          rw [a1, e1, a2, tc_cd_f K X Y Z Wt Nt lv n ok 39 40 (Y v) (ns + 1) (by omega) (by omega) (by omega), tc_cd_f K X Y Z Wt Nt lv n ok 39 40 (Z v) (ns + 1) (by omega) (by omega) (by omega)]
          simp only [tc_choose, tc_seq, tc_loop, tc_tok, List.append_assoc, List.cons_append, List.nil_append]
        have elen := congrArg List.length ecd
        rw [List.length_append, List.length_append, List.length_append] at elen
        have et : tc_tn Wt (Y v :: 40 :: Z v :: 41 :: r) = 3 * Wt (Y v) - 2 + (1 + (3 * Wt (Z v) - 2 + (1 + tc_tn Wt r))) := by
          show (if 40 ≤ Y v then 1 else 3 * Wt (Y v) - 2) + (1 + ((if 40 ≤ Z v then 1 else 3 * Wt (Z v) - 2) + (1 + tc_tn Wt r))) = _
          rw [if_neg (by omega), if_neg (by omega)]
        have eq' : tc_qv Nt n (Y v :: 40 :: Z v :: 41 :: r) (ns + 1) := tc_qv_s (by omega) (by omega) (by omega) ⟨by omega, by omega, tc_qv_s (by omega) (by omega) (by omega) ⟨by omega, by omega, q3⟩⟩
        have hq2 : r.length + 4 ≤ tc_tn Wt (Y v :: 40 :: Z v :: 41 :: r) := tc_tn_len ok hn _ _ eq'
        refine br_t (hKv.trans (congrArg nI k11)) ⟨vin, vin, vin, tc_wchoose lv (X v) (Y v) (Z v) hXv hYv hZv e1 (by omega) (ox k10) (by omega) (by omega) (fun o1 a1 p1 h1 => nm_r (nI_1 turn) ?_) hp hh⟩
        have hk2 := tc_tk_push (Y v) (tc_tk_push 40 (tc_tk_push (Z v) (tc_tk_push 41 hk.2)))
        exact ih (Y v :: 40 :: Z v :: 41 :: r) (ns + 1) (turn + 1) T1 _ o1 a1 (by omega) (by omega) eq' hk2 (by omega) (fun tk' => tc_wr_cast ecd.symm (hw tk')) p1 h1
      refine br_f (fun h => tc_ne (c := 11) (by omega) (by decide) k11 (hKv.symm.trans h)) ⟨vin, ?_⟩
      by_cases k12 : K v = 12
      · obtain ⟨c1, c2, c3⟩ := o12 k12
        have w1 := ok (Y v) (by omega)
        have b1 := w1.2.1
        obtain ⟨T1, e1⟩ : ∃ S : List tc_Tok, S = T ++ ((tc_addTo lv (X v) (13 + 2 * ns)).1 ++ [(2, 13 + 2 * ns, 0), (1, 13 + 2 * ns, -1)]) := ⟨_, rfl⟩
        have m1 : T1.length = T.length + 11 := by rw [e1, List.length_append]; rfl
        have ecd : T ++ ((tc_cd K X Y Z lv 40 v ns).1 ++ tc_rest K X Y Z lv r ns) = T1 ++ tc_rest K X Y Z lv (Y v :: 42 :: r) (ns + 1) := by
          have a1 : tc_rest K X Y Z lv (Y v :: 42 :: r) (ns + 1) = (tc_cd K X Y Z lv 40 (Y v) (ns + 1)).1 ++ ((3, 13 + 2 * ns, 0) :: tc_rest K X Y Z lv r ns) := by
            rw [tc_rest_s _ _ _ _ _ _ _ _ (by omega)]
            rfl
          have a2 : tc_cd K X Y Z lv 40 v ns = tc_repeat lv (X v) ns (tc_cd K X Y Z lv 39 (Y v) (ns + 1)) := by
            rw [tc_cd, if_neg k10, if_neg k11, if_pos k12]
          rw [a1, e1, a2, tc_cd_f K X Y Z Wt Nt lv n ok 39 40 (Y v) (ns + 1) (by omega) (by omega) (by omega)]
          simp only [tc_repeat, tc_seq, tc_loop, tc_tok, List.append_assoc, List.cons_append, List.nil_append]
        have elen := congrArg List.length ecd
        rw [List.length_append, List.length_append, List.length_append] at elen
        have et : tc_tn Wt (Y v :: 42 :: r) = 3 * Wt (Y v) - 2 + (1 + tc_tn Wt r) := by
          show (if 40 ≤ Y v then 1 else 3 * Wt (Y v) - 2) + (1 + tc_tn Wt r) = _
          rw [if_neg (by omega)]
        have eq' : tc_qv Nt n (Y v :: 42 :: r) (ns + 1) := tc_qv_s (by omega) (by omega) (by omega) ⟨by omega, by omega, q3⟩
        have hq2 : r.length + 2 ≤ tc_tn Wt (Y v :: 42 :: r) := tc_tn_len ok hn _ _ eq'
        refine br_t (hKv.trans (congrArg nI k12)) ⟨vin, vin, tc_wrepeat lv (X v) (Y v) hXv hYv e1 (by omega) (ox k10) (by omega) (by omega) (fun o1 a1 p1 h1 => nm_r (nI_1 turn) ?_) hp hh⟩
        have hk2 := tc_tk_push (Y v) (tc_tk_push 42 hk.2)
        exact ih (Y v :: 42 :: r) (ns + 1) (turn + 1) T1 _ o1 a1 (by omega) (by omega) eq' hk2 (by omega) (fun tk' => tc_wr_cast ecd.symm (hw tk')) p1 h1
      refine br_f (fun h => tc_ne (c := 12) (by omega) (by decide) k12 (hKv.symm.trans h)) ⟨vin, vin, vin, vin, ?_⟩
      have a2 : tc_cd K X Y Z lv 40 v ns = tc_simple lv (K v) (X v) (Y v) (Z v) := by
        rw [tc_cd, if_neg k10, if_neg k11, if_neg k12]
      rw [a2] at hlen hw
      obtain ⟨T1, e1⟩ : ∃ S : List tc_Tok, S = T ++ (tc_simple lv (K v) (X v) (Y v) (Z v)).1 := ⟨_, rfl⟩
      have m1 : T1.length = T.length + (tc_simple lv (K v) (X v) (Y v) (Z v)).1.length := by rw [e1, List.length_append]
      rw [hKv, hXv, hYv, hZv]
      refine tc_wsimple lv (K v) (X v) (Y v) (Z v) (by omega) o1' k10 k11 k12 (ox k10) (fun e1 e2 => oy e1 e2 k10 k11 k12) (fun e => oz (by omega)) (fun o1 a1 p1 h1 => nm_r (nI_1 turn) ?_) hp hh
      rw [← e1] at p1 h1 ⊢
      exact ih r ns (turn + 1) T1 tasks o1 a1 (by omega) (by omega) q3 hk.2 (by omega) (fun tk' => tc_wr_cast (by rw [e1, List.append_assoc]) (hw tk')) p1 h1
end
section
/-! part 12: the printed loops that match and that carry out (made by wip/whole/gen12.py) -/
theorem tc_fold10 {post : Int32 → Prop} {stm said lev ln pc wt nst : Int32} {ka fi se th we ne tape kept ops args tasks starts : Nat → Int32} (i : Nat) (hi : i ≤ 2048) : ∀ (L : List tc_Raw) (aw ow : Int32) (j fuel : Nat), tc_hold ops args j L → i = j + L.length → L.length < fuel → post (if tc_cf aw ow L = true then 1 else 0) → wX_canFold_10 post (nI i) stm said lev ln pc wt nst ka fi se th we ne tape kept ops args tasks starts fuel aw ow (nI j) := by
  intro L
  induction L with
  | nil =>
    intro aw ow j fuel _ hj hf hp
    have hj : i = j := hj
    subst hj
    obtain ⟨n, rfl⟩ : ∃ n, fuel = n + 1 := ⟨fuel - 1, by have : 0 < fuel := hf; omega⟩
    refine br_t (nI_le (Nat.le_refl _) (by omega)) ?_
    by_cases ha : aw = 0
    · by_cases ho : ow = -1
      · refine br_t ha (br_t ho ?_)
        rw [if_pos (tc_cf_e ha ho)] at hp
        exact hp
      · refine br_t ha (br_f ho ?_)
        rw [if_neg (by unfold tc_cf; simp [ho])] at hp
        exact hp
    · refine br_f ha ?_
      rw [if_neg (by unfold tc_cf; simp [ha])] at hp
      exact hp
  | cons x L ih =>
    intro aw ow j fuel hh hj hf hp
    rw [List.length_cons] at hj hf
    obtain ⟨n, rfl⟩ : ∃ n, fuel = n + 1 := ⟨fuel - 1, by omega⟩
    have cl : (nI j).toNatClampNeg = j := nI_clamp (by omega)
    have vin : vp_in (nI j) 2048 := vp_in_nI (by omega) (by omega)
    have e1 : ops (nI j).toNatClampNeg = x.1 := by rw [cl]; exact hh.1
    have e2 : args (nI j).toNatClampNeg = x.2 := by rw [cl]; exact hh.2.1
    have cfe : tc_cf aw ow (x :: L) = (if x.1 = 0 then tc_cf (aw + x.2) ow L else if x.1 = 1 then (if aw = 0 then tc_cf aw (ow + x.2) L else tc_cf aw ow L) else false) := rfl
    rw [cfe] at hp
    refine br_f (nI_ge (by omega) (by omega)) ⟨vin, ?_⟩
    by_cases x0 : x.1 = 0
    · rw [if_pos x0] at hp
      refine br_t (e1.trans x0) ⟨vin, nm_r (by rw [e2]) (nm_r (nI_1 j) (ih (aw + x.2) ow (j + 1) n hh.2.2 (by omega) (by omega) hp))⟩
    · rw [if_neg x0] at hp
      refine br_f (fun h => x0 (e1.symm.trans h)) ⟨vin, ?_⟩
      by_cases x1 : x.1 = 1
      · rw [if_pos x1] at hp
        refine br_t (e1.trans x1) ?_
        by_cases ha : aw = 0
        · rw [if_pos ha] at hp
          exact br_t ha ⟨vin, nm_r (by rw [e2]) (nm_r (nI_1 j) (ih aw (ow + x.2) (j + 1) n hh.2.2 (by omega) (by omega) hp))⟩
        · rw [if_neg ha] at hp
          exact br_f ha (nm_r (nI_1 j) (ih aw ow (j + 1) n hh.2.2 (by omega) (by omega) hp))
      · rw [if_neg x1] at hp
        exact br_f (fun h => x1 (e1.symm.trans h)) hp
def tc_Wm (post : SX → Prop) (stm said lev : Int32) (len : Nat) (pc wt nst : Int32) (ka fi se th we ne tape kept tasks : Nat → Int32) (d i : Nat) (ops args starts : Nat → Int32) : Prop :=
  ∀ fuel, len < fuel + i → wX_matchLoops_4 post stm said lev (nI len) pc wt nst fuel (nI d) (nI i) ka fi se th we ne tape kept ops args tasks starts
theorem tc_mr {post : SX → Prop} {stm said lev : Int32} {len : Nat} {pc wt nst : Int32} {ka fi se th we ne tape kept tasks : Nat → Int32} (hl : len ≤ 2048) : tc_MR lev len (tc_Wm post stm said lev len pc wt nst ka fi se th we ne tape kept tasks) := by
  refine ⟨?_, ?_, ?_⟩
  · intro d i ops args st hi h2 h3 hw fuel hf
    obtain ⟨n, rfl⟩ : ∃ n, fuel = n + 1 := ⟨fuel - 1, by omega⟩
    have cl : (nI i).toNatClampNeg = i := nI_clamp (by omega)
    have vin : vp_in (nI i) 2048 := vp_in_nI (by omega) (by omega)
    have e2 : ¬ ops (nI i).toNatClampNeg = 2 := by rw [cl]; exact h2
    have e3 : ¬ ops (nI i).toNatClampNeg = 3 := by rw [cl]; exact h3
    refine br_f (nI_ge hi (by omega)) ⟨vin, br_f e2 ?_⟩
    delta wX_matchLoops_41
    exact ⟨vin, br_f e3 (nm_r (nI_1 i) (hw n (by omega)))⟩
  · intro d i ops args st hi h2 hd hw fuel hf
    obtain ⟨n, rfl⟩ : ∃ n, fuel = n + 1 := ⟨fuel - 1, by omega⟩
    have cl : (nI i).toNatClampNeg = i := nI_clamp (by omega)
    have cld : (nI d).toNatClampNeg = d := nI_clamp (by omega)
    have vin : vp_in (nI i) 2048 := vp_in_nI (by omega) (by omega)
    have e2 : ops (nI i).toNatClampNeg = 2 := by rw [cl]; exact h2
    exact br_f (nI_ge hi (by omega)) ⟨vin, br_t e2 (br_f (nI_ge (b := 16) hd (by decide)) ⟨vp_in_nI hd (by omega), nm_r (by rw [cld]) (nm_r (nI_1 d) (nm_r (nI_1 i) (hw n (by omega))))⟩)⟩
  · intro d i ops args st s L hi h3 hd hs hh he hw fuel hf
    obtain ⟨n, rfl⟩ : ∃ n, fuel = n + 1 := ⟨fuel - 1, by omega⟩
    have cl : (nI i).toNatClampNeg = i := nI_clamp (by omega)
    have cls : (nI s).toNatClampNeg = s := nI_clamp (by omega)
    have cld : (nI d).toNatClampNeg = d := nI_clamp (by omega)
    have vin : vp_in (nI i) 2048 := vp_in_nI (by omega) (by omega)
    have vis : vp_in (nI s) 2048 := vp_in_nI (by omega) (by omega)
    have e3 : ops (nI i).toNatClampNeg = 3 := by rw [cl]; exact h3
    have e2 : ¬ ops (nI i).toNatClampNeg = 2 := by rw [e3]; decide
    refine br_f (nI_ge hi (by omega)) ⟨vin, br_f e2 ?_⟩
    delta wX_matchLoops_41
    refine ⟨vin, br_t e3 (br_f (nI_ge (a := 0) (by omega) (by omega)) (nm_r (pk_m1 d) ⟨vp_in_nI hd (by omega), nm_r (e' := nI s) (by rw [cld]; exact hs) ⟨vis, nm_r (e' := upd args s (nI i)) (by rw [cls]) ⟨vin, nm_r (e' := upd (upd args s (nI i)) i (nI s)) (by rw [cl]) ?_⟩⟩⟩))⟩
    by_cases hlev : lev = 1
    · refine br_t hlev ?_
      delta wpX_canFold
      refine nm_r (nI_1 s) ⟨L.length + 1, ?_⟩
      have hh' : tc_hold ops (upd (upd args s (nI i)) i (nI s)) (s + 1) L := tc_hold_congr _ _ (fun j j1 j2 => ⟨rfl, by rw [pk_un (by omega), pk_un (by omega)]⟩) hh
      refine tc_fold10 i (by omega) L 0 0 (s + 1) _ hh' he (by omega) ?_
      by_cases hc : tc_cf 0 0 L = true
      · rw [if_pos ⟨hlev, hc⟩] at hw
        rw [if_pos hc]
        exact br_f (by decide) ⟨vis, nm_r (e' := upd ops s 5) (by rw [cls]) ⟨vin, nm_r (e' := upd (upd ops s 5) i 6) (by rw [cl]) (nm_r (nI_1 i) (hw n (by omega)))⟩⟩
      · rw [if_neg (fun h => hc h.2)] at hw
        rw [if_neg hc]
        exact br_t rfl (nm_r (nI_1 i) (hw n (by omega)))
    · rw [if_neg (fun h => hlev h.1)] at hw
      exact br_f hlev (nm_r (nI_1 i) (hw n (by omega)))
theorem tc_wm_end {post : SX → Prop} {stm said lev : Int32} {len : Nat} {pc wt nst : Int32} {ka fi se th we ne tape kept tasks : Nat → Int32} {d : Nat} {ops args starts : Nat → Int32} (hl : len ≤ 2048) (h : post (stm, said, lev, nI len, pc, wt, nst, ka, fi, se, th, we, ne, tape, kept, ops, args, tasks, starts)) : tc_Wm post stm said lev len pc wt nst ka fi se th we ne tape kept tasks d len ops args starts := by
  intro fuel hf
  obtain ⟨n, rfl⟩ : ∃ n, fuel = n + 1 := ⟨fuel - 1, by omega⟩
  exact br_t (nI_le (Nat.le_refl _) (by omega)) h
def tc_Wc (post : SX → Prop) (stm lev : Int32) (len : Nat) (pc wt nst : Int32) (ka fi se th we ne ops args tasks starts : Nat → Int32) (m i h : Nat) (tm : Fin 16) (t : Nat → Fin 16) (w : tc_Out) : Prop :=
  ∀ step, step + m ≤ 1000000000 → w.2 ≤ step → ∃ fuel, wX_carryOut_9 post fuel (nI h) (tc_I tm) (nI i) (nI step) stm (nI w.2) lev (nI len) pc wt nst ka fi se th we ne (fun j => tc_I (t j)) w.1 ops args tasks starts
theorem tc_c_move {post : SX → Prop} {stm lev : Int32} {len : Nat} {pc wt nst : Int32} {ka fi se th we ne ops args tasks starts : Nat → Int32} (hl : len ≤ 2048) (m i h h' : Nat) (tm : Fin 16) (t : Nat → Fin 16) (w : tc_Out) (hi : i < len) (ho : ops i = 0) (hh : (nI h + args i) &&& 127 = nI h') (hw : tc_Wc post stm lev len pc wt nst ka fi se th we ne ops args tasks starts m (i + 1) h' tm t w) : tc_Wc post stm lev len pc wt nst ka fi se th we ne ops args tasks starts (m + 1) i h tm t w := by
  intro step h1 h2
  obtain ⟨fuel, hf⟩ := hw (step + 1) (by omega) (by first | omega | exact Nat.succ_le_succ h2)
  refine ⟨fuel + 1, ?_⟩
  have cl : (nI i).toNatClampNeg = i := nI_clamp (by omega)
  have vin : vp_in (nI i) 2048 := vp_in_nI (by omega) (by omega)
  exact br_f (nI_ge (b := 1000000000) (by omega) (by decide)) (br_f (nI_pos (by omega)) (br_f (nI_ge hi (by omega)) ⟨vin, nm_r (e' := args i) (by rw [cl]) ⟨vin, nm_r (e' := 0) (by rw [cl]; exact ho) (br_f (by decide) (br_f (by decide) (br_t rfl (nm_r hh (nm_r (nI_1 i) (nm_r (nI_1 step) hf))))))⟩⟩))
theorem tc_c_add {post : SX → Prop} {stm lev : Int32} {len : Nat} {pc wt nst : Int32} {ka fi se th we ne ops args tasks starts : Nat → Int32} (hl : len ≤ 2048) (m i h : Nat) (tm : Fin 16) (t : Nat → Fin 16) (w : tc_Out) (hi : i < len) (ho : ops i = 1) (hh : h < 128) (hw : tc_Wc post stm lev len pc wt nst ka fi se th we ne ops args tasks starts m (i + 1) h tm (tc_up t h (t h + tc_toV (args i) * tm)) w) : tc_Wc post stm lev len pc wt nst ka fi se th we ne ops args tasks starts (m + 1) i h tm t w := by
  intro step h1 h2
  obtain ⟨fuel, hf⟩ := hw (step + 1) (by omega) (by first | omega | exact Nat.succ_le_succ h2)
  refine ⟨fuel + 1, ?_⟩
  have cl : (nI i).toNatClampNeg = i := nI_clamp (by omega)
  have vin : vp_in (nI i) 2048 := vp_in_nI (by omega) (by omega)
  have clh : (nI h).toNatClampNeg = h := nI_clamp (by omega)
  have vh : vp_in (nI h) 128 := vp_in_nI hh (by omega)
  refine br_f (nI_ge (b := 1000000000) (by omega) (by decide)) (br_f (nI_pos (by omega)) (br_f (nI_ge hi (by omega)) ⟨vin, nm_r (e' := args i) (by rw [cl]) ⟨vin, nm_r (e' := 1) (by rw [cl]; exact ho) (br_f (by decide) (br_f (by decide) (br_f (by decide) (br_t rfl (⟨vh, vh, nm_r (e' := fun j => tc_I (tc_up t h (t h + tc_toV (args i) * tm) j)) ?_ (nm_r (nI_1 i) (nm_r (nI_1 step) hf))⟩)))))⟩⟩))
  rw [clh, tc_addI, tc_updI]
theorem tc_c_open {post : SX → Prop} {stm lev : Int32} {len : Nat} {pc wt nst : Int32} {ka fi se th we ne ops args tasks starts : Nat → Int32} (hl : len ≤ 2048) (m i h : Nat) (tm : Fin 16) (t : Nat → Fin 16) (w : tc_Out) (e : Nat) (hi : i < len) (ho : ops i = 2) (hh : h < 128) (ha : args i = nI e) (hw : tc_Wc post stm lev len pc wt nst ka fi se th we ne ops args tasks starts m (if t h = 0 then e + 1 else i + 1) h tm t w) : tc_Wc post stm lev len pc wt nst ka fi se th we ne ops args tasks starts (m + 1) i h tm t w := by
  intro step h1 h2
  obtain ⟨fuel, hf⟩ := hw (step + 1) (by omega) (by first | omega | exact Nat.succ_le_succ h2)
  refine ⟨fuel + 1, ?_⟩
  have cl : (nI i).toNatClampNeg = i := nI_clamp (by omega)
  have vin : vp_in (nI i) 2048 := vp_in_nI (by omega) (by omega)
  have clh : (nI h).toNatClampNeg = h := nI_clamp (by omega)
  have vh : vp_in (nI h) 128 := vp_in_nI hh (by omega)
  refine br_f (nI_ge (b := 1000000000) (by omega) (by decide)) (br_f (nI_pos (by omega)) (br_f (nI_ge hi (by omega)) ⟨vin, nm_r (e' := nI e) (by rw [cl]; exact ha) ⟨vin, nm_r (e' := 2) (by rw [cl]; exact ho) (br_f (by decide) (br_f (by decide) (br_f (by decide) (br_f (by decide) (br_t rfl (⟨vh, ?_⟩))))))⟩⟩))
  by_cases z : t h = 0
  · rw [if_pos z] at hf
    exact br_t (by show tc_I (t (nI h).toNatClampNeg) = 0; rw [clh, z]; rfl) (nm_r (nI_1 e) (nm_r (nI_1 step) hf))
  · rw [if_neg z] at hf
    exact br_f (by show ¬ tc_I (t (nI h).toNatClampNeg) = 0; rw [clh, tc_I0]; exact z) (nm_r (nI_1 i) (nm_r (nI_1 step) hf))
theorem tc_c_close {post : SX → Prop} {stm lev : Int32} {len : Nat} {pc wt nst : Int32} {ka fi se th we ne ops args tasks starts : Nat → Int32} (hl : len ≤ 2048) (m i h : Nat) (tm : Fin 16) (t : Nat → Fin 16) (w : tc_Out) (e : Nat) (hi : i < len) (ho : ops i = 3) (hh : h < 128) (ha : args i = nI e) (hw : tc_Wc post stm lev len pc wt nst ka fi se th we ne ops args tasks starts m (if t h = 0 then i + 1 else e + 1) h tm t w) : tc_Wc post stm lev len pc wt nst ka fi se th we ne ops args tasks starts (m + 1) i h tm t w := by
  intro step h1 h2
  obtain ⟨fuel, hf⟩ := hw (step + 1) (by omega) (by first | omega | exact Nat.succ_le_succ h2)
  refine ⟨fuel + 1, ?_⟩
  have cl : (nI i).toNatClampNeg = i := nI_clamp (by omega)
  have vin : vp_in (nI i) 2048 := vp_in_nI (by omega) (by omega)
  have clh : (nI h).toNatClampNeg = h := nI_clamp (by omega)
  have vh : vp_in (nI h) 128 := vp_in_nI hh (by omega)
  refine br_f (nI_ge (b := 1000000000) (by omega) (by decide)) (br_f (nI_pos (by omega)) (br_f (nI_ge hi (by omega)) ⟨vin, nm_r (e' := nI e) (by rw [cl]; exact ha) ⟨vin, nm_r (e' := 3) (by rw [cl]; exact ho) (br_f (by decide) (br_f (by decide) (br_f (by decide) (br_f (by decide) (br_f (by decide) (br_t rfl (⟨vh, ?_⟩)))))))⟩⟩))
  by_cases z : t h = 0
  · rw [if_pos z] at hf
    exact br_t (by show tc_I (t (nI h).toNatClampNeg) = 0; rw [clh, z]; rfl) (nm_r (nI_1 i) (nm_r (nI_1 step) hf))
  · rw [if_neg z] at hf
    exact br_f (by show ¬ tc_I (t (nI h).toNatClampNeg) = 0; rw [clh, tc_I0]; exact z) (nm_r (nI_1 e) (nm_r (nI_1 step) hf))
theorem tc_c_print {post : SX → Prop} {stm lev : Int32} {len : Nat} {pc wt nst : Int32} {ka fi se th we ne ops args tasks starts : Nat → Int32} (hl : len ≤ 2048) (m i h : Nat) (tm : Fin 16) (t : Nat → Fin 16) (w : tc_Out) (hi : i < len) (ho : ops i = 4) (hh : h < 128) (hw : tc_Wc post stm lev len pc wt nst ka fi se th we ne ops args tasks starts m (i + 1) h tm t (tc_say w (tc_I (t h)))) : tc_Wc post stm lev len pc wt nst ka fi se th we ne ops args tasks starts (m + 1) i h tm t w := by
  intro step h1 h2
  obtain ⟨fuel, hf⟩ := hw (step + 1) (by omega) (by first | omega | exact Nat.succ_le_succ h2)
  refine ⟨fuel + 1, ?_⟩
  have cl : (nI i).toNatClampNeg = i := nI_clamp (by omega)
  have vin : vp_in (nI i) 2048 := vp_in_nI (by omega) (by omega)
  have clh : (nI h).toNatClampNeg = h := nI_clamp (by omega)
  have vh : vp_in (nI h) 128 := vp_in_nI hh (by omega)
  have clw : (nI w.2).toNatClampNeg = w.2 := nI_clamp (by omega)
  refine br_f (nI_ge (b := 1000000000) (by omega) (by decide)) (br_f (nI_pos (by omega)) (br_f (nI_ge hi (by omega)) ⟨vin, nm_r (e' := args i) (by rw [cl]) ⟨vin, nm_r (e' := 4) (by rw [cl]; exact ho) (br_f (by decide) (br_f (by decide) (br_f (by decide) (br_f (by decide) (br_f (by decide) (br_f (by decide) (br_t rfl (⟨vh, ?_⟩))))))))⟩⟩))
  delta wpX_say
  by_cases z : w.2 < 40
  · rw [show tc_say w (tc_I (t h)) = (upd w.1 w.2 (tc_I (t h)), w.2 + 1) from by unfold tc_say; rw [if_pos z]] at hf
    exact br_f (nI_ge (b := 40) z (by decide)) ⟨vp_in_nI z (by omega), nm_r (e' := upd w.1 w.2 (tc_I (t h))) (by rw [clh, clw]) (nm_r (nI_1 w.2) (nm_r (nI_1 i) (nm_r (nI_1 step) hf)))⟩
  · rw [show tc_say w (tc_I (t h)) = (w.1, w.2 + 1) from by unfold tc_say; rw [if_neg z]] at hf
    exact br_t (nI_le (a := 40) (by omega) (by omega)) (nm_r (nI_1 w.2) (nm_r (nI_1 i) (nm_r (nI_1 step) hf)))
theorem tc_c_times {post : SX → Prop} {stm lev : Int32} {len : Nat} {pc wt nst : Int32} {ka fi se th we ne ops args tasks starts : Nat → Int32} (hl : len ≤ 2048) (m i h : Nat) (tm : Fin 16) (t : Nat → Fin 16) (w : tc_Out) (hi : i < len) (ho : ops i = 5) (hh : h < 128) (hw : tc_Wc post stm lev len pc wt nst ka fi se th we ne ops args tasks starts m (i + 1) h (t h) t w) : tc_Wc post stm lev len pc wt nst ka fi se th we ne ops args tasks starts (m + 1) i h tm t w := by
  intro step h1 h2
  obtain ⟨fuel, hf⟩ := hw (step + 1) (by omega) (by first | omega | exact Nat.succ_le_succ h2)
  refine ⟨fuel + 1, ?_⟩
  have cl : (nI i).toNatClampNeg = i := nI_clamp (by omega)
  have vin : vp_in (nI i) 2048 := vp_in_nI (by omega) (by omega)
  have clh : (nI h).toNatClampNeg = h := nI_clamp (by omega)
  have vh : vp_in (nI h) 128 := vp_in_nI hh (by omega)
  exact br_f (nI_ge (b := 1000000000) (by omega) (by decide)) (br_f (nI_pos (by omega)) (br_f (nI_ge hi (by omega)) ⟨vin, nm_r (e' := args i) (by rw [cl]) ⟨vin, nm_r (e' := 5) (by rw [cl]; exact ho) (br_f (by decide) (br_f (by decide) (br_f (by decide) (br_f (by decide) (br_f (by decide) (br_f (by decide) (br_f (by decide) (br_t rfl (⟨vh, nm_r (e' := tc_I (t h)) (by rw [clh]) (nm_r (nI_1 i) (nm_r (nI_1 step) hf))⟩)))))))))⟩⟩))
theorem tc_c_once {post : SX → Prop} {stm lev : Int32} {len : Nat} {pc wt nst : Int32} {ka fi se th we ne ops args tasks starts : Nat → Int32} (hl : len ≤ 2048) (m i h : Nat) (tm : Fin 16) (t : Nat → Fin 16) (w : tc_Out) (hi : i < len) (ho : ops i = 6) (hh : h < 128) (hw : tc_Wc post stm lev len pc wt nst ka fi se th we ne ops args tasks starts m (i + 1) h 1 t w) : tc_Wc post stm lev len pc wt nst ka fi se th we ne ops args tasks starts (m + 1) i h tm t w := by
  intro step h1 h2
  obtain ⟨fuel, hf⟩ := hw (step + 1) (by omega) (by first | omega | exact Nat.succ_le_succ h2)
  refine ⟨fuel + 1, ?_⟩
  have cl : (nI i).toNatClampNeg = i := nI_clamp (by omega)
  have vin : vp_in (nI i) 2048 := vp_in_nI (by omega) (by omega)
  rw [tc_I_1] at hf
  exact br_f (nI_ge (b := 1000000000) (by omega) (by decide)) (br_f (nI_pos (by omega)) (br_f (nI_ge hi (by omega)) ⟨vin, nm_r (e' := args i) (by rw [cl]) ⟨vin, nm_r (e' := 6) (by rw [cl]; exact ho) (br_f (by decide) (br_t (by decide) (nm_r (nI_1 i) (nm_r (nI_1 step) hf))))⟩⟩))
theorem tc_mach {post : SX → Prop} {stm lev : Int32} {len : Nat} {pc wt nst : Int32} {ka fi se th we ne ops args tasks starts : Nat → Int32} (hl : len ≤ 2048) : tc_Mach ops args len (tc_Wc post stm lev len pc wt nst ka fi se th we ne ops args tasks starts) :=
  ⟨fun m i h tm t w hw step h1 h2 => hw step (by omega) h2, tc_c_move hl, tc_c_add hl, tc_c_open hl, tc_c_close hl, tc_c_print hl, tc_c_times hl, tc_c_once hl⟩
theorem tc_wc_end {post : SX → Prop} {stm lev : Int32} {len : Nat} {pc wt nst : Int32} {ka fi se th we ne ops args tasks starts : Nat → Int32} (hl : len ≤ 2048) {m h : Nat} {tm : Fin 16} {t : Nat → Fin 16} {w : tc_Out} (hp : post (stm, nI w.2, lev, nI len, pc, wt, nst, ka, fi, se, th, we, ne, (fun j => tc_I (t j)), w.1, ops, args, tasks, starts)) : tc_Wc post stm lev len pc wt nst ka fi se th we ne ops args tasks starts m len h tm t w := by
  intro step h1 h2
  refine ⟨1, br_c (fun _ => hp) (fun _ => br_c (fun _ => hp) (fun _ => br_t (nI_le (Nat.le_refl _) (by omega)) hp))⟩
end
section
/-! part 13: the component's run against the meaning -/
def tc_N (a : Nat → Int32) (s : Nat) : Nat := (a s).toBitVec.toNat
theorem tc_N_eq (a : Nat → Int32) (s : Nat) : a s = nI (tc_N a s) := (tc_nIu (a s)).symm
theorem tc_len_simple (lv : Bool) (k x y z : Nat) : (tc_simple lv k x y z).1.length ≤ 73 := by
  unfold tc_simple
  by_cases k0 : k = 0
  · rw [if_pos k0]; exact Nat.le_of_ble_eq_true rfl
  rw [if_neg k0]
  by_cases k1 : k = 1
  · rw [if_pos k1]; exact Nat.le_of_ble_eq_true rfl
  rw [if_neg k1]
  by_cases k2 : k = 2
  · rw [if_pos k2]; exact Nat.le_of_ble_eq_true rfl
  rw [if_neg k2]
  by_cases k3 : k = 3
  · rw [if_pos k3]; exact Nat.le_of_ble_eq_true rfl
  rw [if_neg k3]
  by_cases k4 : k = 4
  · rw [if_pos k4]; exact Nat.le_of_ble_eq_true rfl
  rw [if_neg k4]
  by_cases k5 : k = 5
  · rw [if_pos k5]; exact Nat.le_of_ble_eq_true rfl
  rw [if_neg k5]
  by_cases k6 : k = 6
  · rw [if_pos k6]; exact Nat.le_of_ble_eq_true rfl
  rw [if_neg k6]
  by_cases k7 : k = 7
  · rw [if_pos k7]; exact Nat.le_of_ble_eq_true rfl
  rw [if_neg k7]
  by_cases k8 : k = 8
  · rw [if_pos k8]; exact Nat.le_of_ble_eq_true rfl
  rw [if_neg k8]
  by_cases k9 : k = 9
  · rw [if_pos k9]; exact Nat.le_of_ble_eq_true rfl
  rw [if_neg k9]
  exact Nat.le_of_ble_eq_true rfl
theorem tc_len_choose (lv : Bool) (x ns : Nat) (a b : tc_Fr) : (tc_choose lv x ns a b).1.length = 19 + a.1.length + b.1.length := by
  simp only [tc_choose, tc_seq, tc_loop, tc_tok, List.length_append, List.length_cons, List.length_nil, tc_ln_addTo, tc_ln_clear]
  omega
theorem tc_len_repeat (lv : Bool) (x ns : Nat) (a : tc_Fr) : (tc_repeat lv x ns a).1.length = 12 + a.1.length := by
  simp only [tc_repeat, tc_seq, tc_loop, tc_tok, List.length_append, List.length_cons, List.length_nil, tc_ln_addTo]
  omega
theorem tc_len_cd (K X Y Z Wt Nt : Nat → Nat) (lv : Bool) (n : Nat) (ok : ∀ s, s < n → tc_Ok K X Y Z Wt Nt s) : ∀ (f s ns : Nat), s < n → s < f → (tc_cd K X Y Z lv f s ns).1.length ≤ 73 * Wt s := by
  intro f
  induction f with
  | zero => intro s ns h1 h2; omega
  | succ f ih =>
    intro s ns h1 h2
    obtain ⟨o1, o2, o3, o4, o10, o11, o12, ox, oy0, oy, oz⟩ := ok s h1
    unfold tc_cd
    by_cases k10 : K s = 10
    · rw [if_pos k10]
      obtain ⟨q1, q2, q3, q4, q5⟩ := o10 k10
      have a1 := ih (X s) ns (by omega) (by omega)
      have a2 := ih (Y s) ns (by omega) (by omega)
      show (_ ++ _ : List tc_Tok).length ≤ _
      rw [List.length_append]
      omega
    rw [if_neg k10]
    by_cases k11 : K s = 11
    · rw [if_pos k11]
      obtain ⟨q1, q2, q3, q4, q5⟩ := o11 k11
      have a1 := ih (Y s) (ns + 1) (by omega) (by omega)
      have a2 := ih (Z s) (ns + 1) (by omega) (by omega)
      rw [tc_len_choose]
      omega
    rw [if_neg k11]
    by_cases k12 : K s = 12
    · rw [if_pos k12]
      obtain ⟨q1, q2, q3⟩ := o12 k12
      have a1 := ih (Y s) (ns + 1) (by omega) (by omega)
      rw [tc_len_repeat]
      omega
    rw [if_neg k12]
    have := tc_len_simple lv (K s) (X s) (Y s) (Z s)
    omega
theorem tc_bnd_top {w d : Nat} (hw : w ≤ 12) (hd : d ≤ 2) : 20000 * (w * 16 ^ d) ≤ 100000000 := by
  have p := Nat.pow_le_pow_right (n := 16) (by omega) hd
  have q := Nat.mul_le_mul hw p
  rw [show 12 * 16 ^ 2 = 3072 from by decide] at q
  omega
theorem tc_xrun {post : Int32 → SX → Prop} {n s : Nat} {said lev ln pc wt nst : Int32} {ka fi se th we ne kept ops args tasks starts : Nat → Int32} {vs es : Nat → Fin 16} (hn : n ≤ 40) (hs : s < n)
    (ok : ∀ s, s < n → tc_Ok (tc_N ka) (tc_N fi) (tc_N se) (tc_N th) (tc_N we) (tc_N ne) s) (A : tc_A) (hA : A = tc_ev (tc_N ka) (tc_N fi) (tc_N se) (tc_N th) 40 s (vs, es, (kept, 0)))
    (hp : ∀ (ln' pc' wt' nst' : Int32) (ops' args' tasks' starts' : Nat → Int32), post (nI A.2.2.2) (nI n, nI A.2.2.2, lev, ln', pc', wt', nst', ka, fi, se, th, we, ne, (fun j => tc_I (tc_tp A.1 A.2.1 (fun _ => 0) j)), A.2.2.1, ops', args', tasks', starts')) :
    wpX_run post (nI n, said, lev, ln, pc, wt, nst, ka, fi, se, th, we, ne, (fun j => tc_I (tc_tp vs es (fun _ => 0) j)), kept, ops, args, tasks, starts) (nI s) := by
  obtain ⟨lv, hlv⟩ : ∃ lv : Bool, lv = decide (lev = 1) := ⟨_, rfl⟩
  have oks := ok s hs
  have hW := oks.2.2.1
  have hW1 := oks.2.1
  have hN := oks.2.2.2.1
  have hlen := tc_len_cd _ _ _ _ _ _ lv n ok 40 s 0 hs (by omega)
  have hmt := (tc_mt_cd hlv _ _ _ _ _ _ n ok 40 s 0 hs (by omega) (by omega)).1
  have hmain := tc_main _ _ _ _ _ _ lv n ok 40 s 0 (fun _ => 0) (vs, es, (kept, 0)) hs (by omega) (by omega) (fun _ _ => rfl) 0
  rw [← hA] at hmain
  have hbt : tc_bnd (tc_N we) (tc_N ne) s ≤ 100000000 := tc_bnd_top hW hN
  generalize tc_bnd (tc_N we) (tc_N ne) s = bn at hmain hbt
  have eT : [] ++ tc_rest (tc_N ka) (tc_N fi) (tc_N se) (tc_N th) lv [s] 0 = (tc_cd (tc_N ka) (tc_N fi) (tc_N se) (tc_N th) lv 40 s 0).1 := by
    rw [tc_rest_s _ _ _ _ _ _ _ _ (by omega)]
    show [] ++ (_ ++ []) = _
    rw [List.append_nil, List.nil_append]
  have eT1 : (tc_rest (tc_N ka) (tc_N fi) (tc_N se) (tc_N th) lv [s] 0).length = (tc_cd (tc_N ka) (tc_N fi) (tc_N se) (tc_N th) lv 40 s 0).1.length := congrArg List.length eT
  have htn : tc_tn (tc_N we) [s] = 3 * tc_N we s - 2 := by
    show (if 40 ≤ s then 1 else 3 * tc_N we s - 2) + 0 = _
    rw [if_neg (by omega), Nat.add_zero]
  have hqv : tc_qv (tc_N ne) n [s] 0 := tc_qv_s (by omega) hs (by omega) rfl
  delta wpX_run
  refine br_f (nI_pos (by omega)) (br_f (nI_ge hs (by omega)) (br_f (by decide) ?_))
  delta wpX_writeCode
  refine tc_wlater (C := (nI n, 0, lev, ka, fi, se, th, we, ne, (fun j => tc_I (tc_tp vs es (fun _ => 0) j)), kept, starts)) (T := []) (wt := 0) (ns := nI 0) s rfl (by decide) ⟨64, ?_⟩
  refine tc_wcode (C := (nI n, 0, lev, ka, fi, se, th, we, ne, (fun j => tc_I (tc_tp vs es (fun _ => 0) j)), kept, starts)) lv n hn ok (tc_N_eq ka) (tc_N_eq fi) (tc_N_eq se) (tc_N_eq th) 64 [s] 0 0 [] _ ops args (by omega) (by omega) hqv ⟨pk_us, trivial⟩ (by rw [eT1]; show 0 + _ ≤ _; omega) (fun tk' => tc_wr_cast eT ?_) (by decide) trivial
  generalize tc_cd (tc_N ka) (tc_N fi) (tc_N se) (tc_N th) lv 40 s 0 = P at *
  intro ops' args' hpl hh
  have hl2 := tc_em_len P.1 0
  have hl3 : (tc_em 0 P.1).length ≤ 2048 := by omega
  have hF := hmt.1 0 0
  delta wpX_matchLoops
  refine ⟨(tc_em 0 P.1).length + 1, hmt.2 (tc_em 0 P.1).length _ (tc_mr hl3) 0 0 0 ops' args' starts hh (by omega) (by omega) ?_ _ (by omega)⟩
  intro ops2 args2 st2 g1 g2 g3
  rw [Nat.zero_add]
  refine tc_wm_end hl3 ?_
  delta wpX_carryOut
  refine hmain ops2 args2 (tc_em 0 P.1).length _ (tc_mach hl3) 0 g1 (by omega) 0 ?_ 0 (by omega) (Nat.le_refl _)
  rw [Nat.zero_add, hF]
  exact tc_wc_end hl3 (hp _ _ _ _ _ _ _ _)
end
section
/-! part 14: the reference's simple statements (made by wip/whole/gen14.py) -/
theorem tc_I_le (a b : Fin 16) : tc_I a ≤ tc_I b ↔ ¬ b < a := by
  show nI a.val ≤ nI b.val ↔ _
  rw [nI_leI (by omega) (by omega)]
  show a.val ≤ b.val ↔ ¬ b.val < a.val
  omega
theorem tc_I_eq (a b : Fin 16) : tc_I a = tc_I b ↔ a = b := by
  constructor
  · intro h
    have := congrArg tc_toV h
    rw [tc_I_toV, tc_I_toV] at this
    exact this
  · intro h
    rw [h]
theorem tc_I_div (a b : Fin 16) (h : b ≠ 0) : tc_I a / tc_I b = tc_I (a / b) := by
  have h0 : 0 < b.val := by
    rcases Nat.eq_zero_or_pos b.val with z | z
    · exact absurd (Fin.eq_of_val_eq z) h
    · exact z
  exact pk_div (by omega) h0 (by omega)
theorem tc_div0 (a : Fin 16) : a / 0 = 0 := by revert a; decide
theorem tc_subV (a b : Fin 16) : a - b = a + 15 * b := by revert a b; decide
theorem tc_toV_I (v : Fin 16) (r : Int32) (h : tc_toV r = v) : r &&& 15 = tc_I v := by rw [tc_and15, h]
theorem tc_toV_lt {y : Nat} (h : y < 16) : nI y = tc_I (tc_toV (nI y)) := by
  show nI y = nI (tc_toV (nI y)).val
  rw [tc_toV_nI, Nat.mod_eq_of_lt h]
section
variable {post : SY → Prop} {fn hi : Int32} {ka fi se th we ne bg tm : Nat → Int32} {A : tc_A} {s x y z : Nat}
def tc_Q (post : SY → Prop) (fn hi : Int32) (ka fi se th we ne bg tm : Nat → Int32) (A : tc_A) (s : Nat) (r : Int32) : Prop :=
  vp_in (fi (nI s).toNatClampNeg) 6 ∧ ∀ vars : Nat → Int32, vars = upd (fun j => tc_I (A.1 j)) (fi (nI s).toNatClampNeg).toNatClampNeg (r &&& 15) → post (fn, hi, (nI A.2.2.2), ka, fi, se, th, we, ne, vars, (fun j => tc_I (A.2.1 j)), bg, tm, A.2.2.1)
theorem tc_Q_i (hs : s < 40) (ex : fi s = nI x) (hx : x < 6) (v : Fin 16) (r : Int32) (hr : tc_toV r = v) (h : post (fn, hi, (nI A.2.2.2), ka, fi, se, th, we, ne, (fun j => tc_I (tc_up A.1 x v j)), (fun j => tc_I (A.2.1 j)), bg, tm, A.2.2.1)) : tc_Q post fn hi ka fi se th we ne bg tm A s r := by
  have cl : (nI s).toNatClampNeg = s := nI_clamp (by omega)
  refine ⟨by rw [cl, ex]; exact vp_in_nI hx (by omega), nm_r (e' := fun j => tc_I (tc_up A.1 x v j)) ?_ h⟩
  rw [cl, ex, nI_clamp (by omega), tc_toV_I v r hr, tc_updI]
/-- the way into a statement of a kind but 0 and 9 -/
theorem tc_y143 (k : Nat) (z0 : Int32) (hs : s < 40) (k8 : k ≠ 8) (hk : k ≤ 13) (h : wpY_result (tc_Q post fn hi ka fi se th we ne bg tm A s) (fn, hi, (nI A.2.2.2), ka, fi, se, th, we, ne, (fun j => tc_I (A.1 j)), (fun j => tc_I (A.2.1 j)), bg, tm, A.2.2.1) (nI k) (tc_I (A.1 x)) (tc_I (A.1 y)) z0) : wY_simple_143 post (nI s) (nI k) (tc_I (A.1 x)) (tc_I (A.1 y)) z0 fn hi (nI A.2.2.2) ka fi se th we ne (fun j => tc_I (A.1 j)) (fun j => tc_I (A.2.1 j)) bg tm A.2.2.1 :=
  br_f (tc_ne (c := 8) (by omega) (by decide) k8) ⟨vp_in_nI hs (by omega), h⟩
theorem tc_y108a (k : Nat) (hs : s < 40) (ey : se s = nI y) (hy : y < 6) (h : wY_simple_143 post (nI s) (nI k) (tc_I (A.1 x)) (tc_I (A.1 y)) 0 fn hi (nI A.2.2.2) ka fi se th we ne (fun j => tc_I (A.1 j)) (fun j => tc_I (A.2.1 j)) bg tm A.2.2.1) : wY_simple_108 post (nI s) (nI k) (tc_I (A.1 x)) 0 fn hi (nI A.2.2.2) ka fi se th we ne (fun j => tc_I (A.1 j)) (fun j => tc_I (A.2.1 j)) bg tm A.2.2.1 := by
  have cl : (nI s).toNatClampNeg = s := nI_clamp (by omega)
  refine ⟨vp_in_nI hs (by omega), by rw [cl, ey]; exact vp_in_nI hy (by omega), nm_r (e' := tc_I (A.1 y)) ?_ (br_t rfl h)⟩
  rw [cl, ey, nI_clamp (by omega)]
theorem tc_y108b (k : Nat) (hs : s < 40) (ey : se s = nI y) (hy : y < 6) (ez : th s = nI z) (hz : z < 6) (h : wY_simple_143 post (nI s) (nI k) (tc_I (A.1 x)) (tc_I (A.1 y)) (tc_I (A.1 z)) fn hi (nI A.2.2.2) ka fi se th we ne (fun j => tc_I (A.1 j)) (fun j => tc_I (A.2.1 j)) bg tm A.2.2.1) : wY_simple_103 post (nI s) (nI k) (tc_I (A.1 x)) fn hi (nI A.2.2.2) ka fi se th we ne (fun j => tc_I (A.1 j)) (fun j => tc_I (A.2.1 j)) bg tm A.2.2.1 := by
  have cl : (nI s).toNatClampNeg = s := nI_clamp (by omega)
  delta wY_simple_103
  refine ⟨vp_in_nI hs (by omega), by rw [cl, ey]; exact vp_in_nI hy (by omega), nm_r (e' := tc_I (A.1 y)) ?_ (br_f (by decide) ⟨vp_in_nI hs (by omega), by rw [cl, ez]; exact vp_in_nI hz (by omega), ?_⟩)⟩
  · rw [cl, ey, nI_clamp (by omega)]
  · rw [cl, ez, nI_clamp (by omega)]
    exact h
theorem tc_ysimple (k : Nat) (hs : s < 40) (ek : ka s = nI k) (ex : fi s = nI x) (ey : se s = nI y) (ez : th s = nI z) (hk : k ≤ 13) (k10 : k ≠ 10) (k11 : k ≠ 11) (k12 : k ≠ 12) (hx : x < 6) (hy0 : k = 0 → y < 16) (hy : k ≠ 0 → k ≠ 9 → y < 6) (hz : k = 4 ∨ k = 5 ∨ k = 6 ∨ 9 < k → z < 6) (hpr : A.2.2.2 ≤ 10000) (B : tc_A) (hB : B = tc_evs k x y z A) (h : post (fn, hi, nI B.2.2.2, ka, fi, se, th, we, ne, (fun j => tc_I (B.1 j)), (fun j => tc_I (B.2.1 j)), bg, tm, B.2.2.1)) : wpY_simple post (fn, hi, (nI A.2.2.2), ka, fi, se, th, we, ne, (fun j => tc_I (A.1 j)), (fun j => tc_I (A.2.1 j)), bg, tm, A.2.2.1) (nI s) := by
  have cl : (nI s).toNatClampNeg = s := nI_clamp (by omega)
  have vin : vp_in (nI s) 40 := vp_in_nI hs (by omega)
  have vx : vp_in (fi (nI s).toNatClampNeg) 6 := by rw [cl, ex]; exact vp_in_nI hx (by omega)
  have ek' : ka (nI s).toNatClampNeg = nI k := by rw [cl]; exact ek
  have ex' : (fun j => tc_I (A.1 j)) (fi (nI s).toNatClampNeg).toNatClampNeg = tc_I (A.1 x) := by rw [cl, ex, nI_clamp (by omega)]
  delta wpY_simple
  refine ⟨vin, nm_r ek' ⟨vin, vx, nm_r ex' ?_⟩⟩
  by_cases k0 : k = 0
  · subst k0
    have hB : B = (tc_up A.1 x (tc_toV (nI y)), A.2) := hB
    subst hB
    refine br_t rfl ⟨vin, vin, vx, nm_r (e' := fun j => tc_I (tc_up A.1 x (tc_toV (nI y)) j)) ?_ h⟩
    rw [cl, ex, ey, nI_clamp (by omega), ← tc_updI, ← tc_toV_lt (hy0 rfl)]
  refine br_f (tc_ne (c := 0) (by omega) (by decide) k0) ?_
  by_cases k9 : k = 9
  · subst k9
    have hB : B = (A.1, A.2.1, tc_say A.2.2 (tc_I (A.1 x))) := hB
    subst hB
    refine br_t rfl ?_
    have clp : (nI A.2.2.2).toNatClampNeg = A.2.2.2 := nI_clamp (by omega)
    by_cases p40 : A.2.2.2 < 40
    · rw [show tc_say A.2.2 (tc_I (A.1 x)) = (upd A.2.2.1 A.2.2.2 (tc_I (A.1 x)), A.2.2.2 + 1) from by unfold tc_say; rw [if_pos p40]] at h
      refine br_f (nI_ge (b := 40) p40 (by decide)) ⟨vp_in_nI p40 (by omega), nm_r (e' := upd A.2.2.1 A.2.2.2 (tc_I (A.1 x))) (by rw [clp]) ?_⟩
      exact nm_r (nI_1 A.2.2.2) h
    · rw [show tc_say A.2.2 (tc_I (A.1 x)) = (A.2.2.1, A.2.2.2 + 1) from by unfold tc_say; rw [if_neg p40]] at h
      exact br_t (nI_le (a := 40) (by omega) (by omega)) (nm_r (nI_1 A.2.2.2) h)
  refine br_f (tc_ne (c := 9) (by omega) (by decide) k9) ?_
  have hy6 := hy k0 k9
  have ck := fun c hc (h : k ≠ c) => tc_ne (v := k) (c := c) (by omega) hc h
  by_cases k4 : k = 4
  · subst k4
    have hB : B = (tc_up A.1 x (A.1 y * A.1 z), A.2) := hB
    subst hB
    refine br_t rfl (tc_y108b 4 hs ey hy6 ez (hz (by omega)) (tc_y143 4 _ hs (by decide) (by decide) ?_))
    exact br_f (by decide) (br_f (by decide) (br_t rfl (tc_Q_i hs ex hx _ _ (by rw [tc_toV_mul, tc_I_toV, tc_I_toV]) h)))
  refine br_f (ck 4 (by decide) k4) ?_
  by_cases k5 : k = 5
  · subst k5
    have hB : B = (tc_up A.1 x (if A.1 y < A.1 z then 1 else 0), A.2) := hB
    subst hB
    refine br_t rfl (tc_y108b 5 hs ey hy6 ez (hz (by omega)) (tc_y143 5 _ hs (by decide) (by decide) ?_))
    refine br_f (by decide) (br_f (by decide) (br_f (by decide) (br_t rfl ?_)))
    by_cases lt : A.1 y < A.1 z
    · refine br_f (fun c => (tc_I_le _ _).mp c lt) (tc_Q_i hs ex hx _ _ ?_ h)
      show tc_toV 1 = if A.1 y < A.1 z then 1 else 0
      rw [if_pos lt]
      rfl
    · refine br_t ((tc_I_le _ _).mpr lt) (tc_Q_i hs ex hx _ _ ?_ h)
      show tc_toV 0 = if A.1 y < A.1 z then 1 else 0
      rw [if_neg lt]
      rfl
  refine br_f (ck 5 (by decide) k5) ?_
  by_cases k6 : k = 6
  · subst k6
    have hB : B = (tc_up A.1 x (if A.1 y = A.1 z then 1 else 0), A.2) := hB
    subst hB
    refine br_t rfl (tc_y108b 6 hs ey hy6 ez (hz (by omega)) (tc_y143 6 _ hs (by decide) (by decide) ?_))
    refine br_f (by decide) (br_f (by decide) (br_f (by decide) (br_f (by decide) (br_t rfl ?_))))
    by_cases eq : A.1 y = A.1 z
    · refine br_t ((tc_I_eq _ _).mpr eq) (tc_Q_i hs ex hx _ _ ?_ h)
      show tc_toV 1 = if A.1 y = A.1 z then 1 else 0
      rw [if_pos eq]
      rfl
    · refine br_f (fun c => eq ((tc_I_eq _ _).mp c)) (tc_Q_i hs ex hx _ _ ?_ h)
      show tc_toV 0 = if A.1 y = A.1 z then 1 else 0
      rw [if_neg eq]
      rfl
  refine br_f (ck 6 (by decide) k6) ?_
  by_cases k13 : k = 13
  · subst k13
    have hB : B = (tc_up A.1 x (A.1 y / A.1 z), A.2) := hB
    subst hB
    refine br_t rfl (tc_y108b 13 hs ey hy6 ez (hz (by omega)) (tc_y143 13 _ hs (by decide) (by decide) ?_))
    refine br_f (by decide) (br_f (by decide) (br_f (by decide) (br_f (by decide) (br_f (by decide) (br_f (by decide) (br_t rfl ?_))))))
    by_cases z0 : A.1 z = 0
    · refine br_t ((tc_I0 _).mpr z0) (tc_Q_i hs ex hx _ _ ?_ h)
      show tc_toV 0 = A.1 y / A.1 z
      rw [z0, tc_div0]
      rfl
    · have nz : ¬ tc_I (A.1 z) = 0 := fun c => z0 ((tc_I0 _).mp c)
      refine br_f nz (br_f nz ⟨nz, tc_Q_i hs ex hx _ _ ?_ h⟩)
      rw [tc_I_div _ _ z0, tc_I_toV]
  refine br_f (ck 13 (by decide) k13) ?_
  refine tc_y108a k hs ey hy6 ?_
  by_cases k8 : k = 8
  · subst k8
    have hB : B = (A.1, tc_up A.2.1 (A.1 x).val (A.1 y), A.2.2) := hB
    subst hB
    have clx : (tc_I (A.1 x)).toNatClampNeg = (A.1 x).val := nI_clamp (by omega)
    exact br_t rfl ⟨vp_in_nI (A.1 x).isLt (by omega), nm_r (e' := fun j => tc_I (tc_up A.2.1 (A.1 x).val (A.1 y) j)) (by rw [clx, tc_updI]) h⟩
  refine tc_y143 k _ hs k8 hk ?_
  by_cases k2 : k = 2
  · subst k2
    have hB : B = (tc_up A.1 x (A.1 x + tc_toV 1 * A.1 y), A.2) := hB
    subst hB
    exact br_t rfl (tc_Q_i hs ex hx _ _ (by rw [tc_toV_add, tc_I_toV, tc_I_toV, tc_p1, tc_r9]) h)
  refine br_f (ck 2 (by decide) k2) ?_
  by_cases k3 : k = 3
  · subst k3
    have hB : B = (tc_up A.1 x (A.1 x + tc_toV (-1) * A.1 y), A.2) := hB
    subst hB
    exact br_t rfl (tc_Q_i hs ex hx _ _ (by rw [tc_toV_sub, tc_I_toV, tc_I_toV, tc_m1, tc_subV]) h)
  refine br_f (ck 3 (by decide) k3) (br_f (ck 4 (by decide) k4) (br_f (ck 5 (by decide) k5) (br_f (ck 6 (by decide) k6) ?_)))
  by_cases k7 : k = 7
  · subst k7
    have hB : B = (tc_up A.1 x (A.2.1 (A.1 y).val), A.2) := hB
    subst hB
    have cly : (tc_I (A.1 y)).toNatClampNeg = (A.1 y).val := nI_clamp (by omega)
    exact br_t rfl ⟨vp_in_nI (A.1 y).isLt (by omega), tc_Q_i hs ex hx _ _ (by rw [cly, tc_I_toV]) h⟩
  have k1 : k = 1 := by omega
  subst k1
  have hB : B = (tc_up A.1 x (A.1 y), A.2) := hB
  subst hB
  exact br_f (by decide) (br_f (by decide) (tc_Q_i hs ex hx _ _ (by rw [tc_I_toV]) h))
end
end
section
/-! part 15: the reference's run against the meaning (made by wip/whole/gen15.py) -/
theorem tc_nb_a (w d w1 d1 w2 d2 : Nat) (hw : w = 1 + w1 + w2) (h1 : d1 ≤ d) (h2 : d2 ≤ d) : 1 + w1 * 16 ^ d1 + w2 * 16 ^ d2 ≤ w * 16 ^ d := by
  have := tc_bnd_a w d w1 d1 w2 d2 hw h1 h2
  generalize w * 16 ^ d = c at *
  generalize w1 * 16 ^ d1 = a at *
  generalize w2 * 16 ^ d2 = b at *
  omega
theorem tc_nb_r (w d w1 d1 : Nat) (hw : w = 1 + w1) (h1 : d1 + 1 ≤ d) : 1 + 15 * (w1 * 16 ^ d1) ≤ w * 16 ^ d := by
  have := tc_bnd_r w d w1 d1 hw h1
  generalize w * 16 ^ d = c at *
  generalize w1 * 16 ^ d1 = a at *
  omega
theorem tc_nb_1 (w d : Nat) (h : 1 ≤ w) : 1 ≤ w * 16 ^ d := by
  have r : 1 ≤ 16 ^ d := Nat.pow_pos (by decide)
  have := Nat.mul_le_mul h r
  omega
theorem tc_evs_said (k x y z : Nat) (A : tc_A) : (tc_evs k x y z A).2.2.2 ≤ A.2.2.2 + 1 := by
  unfold tc_evs
  repeat' split
  all_goals first | exact Nat.le_succ _ | exact Nat.le_refl _
def tc_RY (post : Int32 → SY → Prop) (fn : Int32) (ka fi se th we ne : Nat → Int32) (m h : Nat) (bg tm : Nat → Int32) (A : tc_A) : Prop := ∀ step, step + m ≤ 10000 → A.2.2.2 ≤ step → ∃ fuel, wY_run_28 post fuel (nI step) fn (nI h) (nI A.2.2.2) ka fi se th we ne (fun j => tc_I (A.1 j)) (fun j => tc_I (A.2.1 j)) bg tm A.2.2.1
def tc_RC (post : Int32 → SY → Prop) (fn : Int32) (ka fi se th we ne : Nat → Int32) (m s h : Nat) (bg tm : Nat → Int32) (A : tc_A) : Prop := ∀ step, step + m ≤ 10000 → A.2.2.2 ≤ step → ∃ fuel, wY_run_93 post (wY_run_28 post fuel) (nI step) (nI s) fn (nI h) (nI A.2.2.2) ka fi se th we ne (fun j => tc_I (A.1 j)) (fun j => tc_I (A.2.1 j)) bg tm A.2.2.1
section
variable {post : Int32 → SY → Prop} {fn : Int32} {ka fi se th we ne : Nat → Int32}
theorem tc_RC_le {m m' s h : Nat} {bg tm : Nat → Int32} {A : tc_A} (H : tc_RC post fn ka fi se th we ne m s h bg tm A) (hm : m ≤ m') : tc_RC post fn ka fi se th we ne m' s h bg tm A := fun step h1 h2 => H step (by omega) h2
theorem tc_pop0 {m s h : Nat} {bg tm : Nat → Int32} {A : tc_A} (hb : bg h = nI s) (ht : tm h = nI 1) (hh : h < 40) (hm : 1 ≤ m) (H : tc_RC post fn ka fi se th we ne m s h bg (upd tm h (nI 0)) A) : tc_RY post fn ka fi se th we ne m (h + 1) bg tm A := by
  intro step h1 h2
  obtain ⟨fuel, hf⟩ := H step h1 h2
  have hp : nI (h + 1) - 1 = nI h := nI_pred h
  have cl : (nI h).toNatClampNeg = h := nI_clamp (by omega)
  have vin : vp_in (nI (h + 1) - 1) 40 := by rw [hp]; exact vp_in_nI hh (by omega)
  refine ⟨fuel + 1, br_f (nI_ge (b := 10000) (by omega) (by decide)) (br_f (nI_nle (by omega) (by omega)) ⟨vin, nm_r (e' := nI s) (by rw [hp, cl, hb]) ⟨vin, vin, nm_r (e' := upd tm h (nI 0)) ?_ ⟨vin, br_t ?_ (nm_r hp hf)⟩⟩⟩)⟩
  · rw [hp, cl, ht]
    exact congrArg (upd tm h) (nI_pred 0)
  · rw [hp, cl, pk_us]
    rfl
theorem tc_popc {m s h c : Nat} {bg tm : Nat → Int32} {A : tc_A} (hb : bg h = nI s) (ht : tm h = nI (c + 1 + 1)) (hc : c < 100) (hh : h < 40) (hm : 1 ≤ m) (H : tc_RC post fn ka fi se th we ne m s (h + 1) bg (upd tm h (nI (c + 1))) A) : tc_RY post fn ka fi se th we ne m (h + 1) bg tm A := by
  intro step h1 h2
  obtain ⟨fuel, hf⟩ := H step h1 h2
  have hp : nI (h + 1) - 1 = nI h := nI_pred h
  have cl : (nI h).toNatClampNeg = h := nI_clamp (by omega)
  have vin : vp_in (nI (h + 1) - 1) 40 := by rw [hp]; exact vp_in_nI hh (by omega)
  refine ⟨fuel + 1, br_f (nI_ge (b := 10000) (by omega) (by decide)) (br_f (nI_nle (by omega) (by omega)) ⟨vin, nm_r (e' := nI s) (by rw [hp, cl, hb]) ⟨vin, vin, nm_r (e' := upd tm h (nI (c + 1))) ?_ ⟨vin, br_f ?_ hf⟩⟩⟩)⟩
  · rw [hp, cl, ht]
    exact congrArg (upd tm h) (nI_pred (c + 1))
  · rw [hp, cl, pk_us]
    exact nI_ne0 (by omega) (by omega)
theorem tc_yput {P : SY → Prop} {h s c : Nat} {p0 p1 : Int32} {bg tm : Nat → Int32} {A : tc_A} (e0 : p0 = nI s) (e1 : p1 = nI c) (hc0 : 0 < c) (hc : c < 100) (hh : h < 40) (H : P (fn, (nI (h + 1)), (nI A.2.2.2), ka, fi, se, th, we, ne, (fun j => tc_I (A.1 j)), (fun j => tc_I (A.2.1 j)), upd bg h (nI s), upd tm h (nI c), A.2.2.1)) : wpY_put P (fn, (nI h), (nI A.2.2.2), ka, fi, se, th, we, ne, (fun j => tc_I (A.1 j)), (fun j => tc_I (A.2.1 j)), bg, tm, A.2.2.1) p0 p1 := by
  subst e0 e1
  have cl : (nI h).toNatClampNeg = h := nI_clamp (by omega)
  have vin : vp_in (nI h) 40 := vp_in_nI hh (by omega)
  exact br_f (nI_ne0 hc0 (by omega)) ⟨vin, nm_r (e' := upd bg h (nI s)) (by rw [cl]) ⟨vin, nm_r (e' := upd tm h (nI c)) (by rw [cl]) (nm_r (nI_1 h) H)⟩⟩
theorem tc_yrep {Y h nb : Nat} {g : tc_A → tc_A} (hh : h + 1 < 40) (hnb : 1 ≤ nb) (R0 : ∀ m bg tm A, (∀ bg' tm', (∀ j, j < h → bg' j = bg j ∧ tm' j = tm j) → tc_RY post fn ka fi se th we ne m h bg' tm' (g A)) → tc_RC post fn ka fi se th we ne (m + nb) Y h bg tm A)
    (R1 : ∀ m bg tm A, (∀ bg' tm', (∀ j, j < h + 1 → bg' j = bg j ∧ tm' j = tm j) → tc_RY post fn ka fi se th we ne m (h + 1) bg' tm' (g A)) → tc_RC post fn ka fi se th we ne (m + nb) Y (h + 1) bg tm A) :
    ∀ (c : Nat) (m : Nat) (bg tm : Nat → Int32) (A : tc_A), c < 100 → bg h = nI Y → tm h = nI (c + 1) → (∀ bg' tm', (∀ j, j < h → bg' j = bg j ∧ tm' j = tm j) → tc_RY post fn ka fi se th we ne m h bg' tm' (tc_it g (c + 1) A)) → tc_RY post fn ka fi se th we ne (m + (c + 1) * nb) (h + 1) bg tm A := by
  intro c
  induction c with
  | zero =>
    intro m bg tm A hc hb ht H
    rw [Nat.zero_add, Nat.one_mul]
    refine tc_pop0 hb ht (by omega) (by omega) (R0 m bg _ A (fun bg' tm' hag => H bg' tm' (fun j hj => ?_)))
    have := hag j hj
    exact ⟨this.1, this.2.trans (pk_un (by omega))⟩
  | succ c ih =>
    intro m bg tm A hc hb ht H
    rw [show m + (c + 1 + 1) * nb = m + (c + 1) * nb + nb from by rw [Nat.succ_mul (c + 1)]; omega]
    refine tc_popc hb ht (by omega) (by omega) (by omega) (R1 _ bg _ A (fun bg' tm' hag => ?_))
    refine ih m bg' tm' (g A) (by omega) ((hag h (by omega)).1.trans hb) ((hag h (by omega)).2.trans pk_us) (fun bg2 tm2 hag2 => H bg2 tm2 (fun j hj => ?_))
    have a1 := hag2 j hj
    have a2 := hag j (by omega)
    exact ⟨a1.1.trans a2.1, a1.2.trans (a2.2.trans (pk_un (by omega)))⟩
theorem tc_cy (n : Nat) (hn : n ≤ 40) (ok : ∀ s, s < n → tc_Ok (tc_N ka) (tc_N fi) (tc_N se) (tc_N th) (tc_N we) (tc_N ne) s) : ∀ (f s : Nat), s < n → s < f → ∀ (m h : Nat) (bg tm : Nat → Int32) (A : tc_A), h + tc_N we s ≤ 40 →
    (∀ bg' tm', (∀ j, j < h → bg' j = bg j ∧ tm' j = tm j) → tc_RY post fn ka fi se th we ne m h bg' tm' (tc_ev (tc_N ka) (tc_N fi) (tc_N se) (tc_N th) f s A)) → tc_RC post fn ka fi se th we ne (m + tc_N we s * 16 ^ tc_N ne s) s h bg tm A := by
  intro f
  induction f with
  | zero => intro s h1 h2; omega
  | succ f ih =>
    intro s hs hf m h bg tm A hh H
    obtain ⟨o1, o2, o3, o4, o10, o11, o12, ox, oy0, oy, oz⟩ := ok s hs
    have cl : (nI s).toNatClampNeg = s := nI_clamp (by omega)
    have vin : vp_in (nI s) 40 := vp_in_nI (by omega) (by omega)
    have ek : ka (nI s).toNatClampNeg = nI (tc_N ka s) := by rw [cl]; exact tc_N_eq ka s
    have ex : fi (nI s).toNatClampNeg = nI (tc_N fi s) := by rw [cl]; exact tc_N_eq fi s
    have ey : se (nI s).toNatClampNeg = nI (tc_N se s) := by rw [cl]; exact tc_N_eq se s
    have ez : th (nI s).toNatClampNeg = nI (tc_N th s) := by rw [cl]; exact tc_N_eq th s
    have nb0 := tc_nb_1 _ (tc_N ne s) o2
    unfold tc_ev at H
    by_cases k10 : tc_N ka s = 10
    · rw [if_pos k10] at H
      obtain ⟨q1, q2, q3, q4, q5⟩ := o10 k10
      have w1 := (ok _ (show tc_N fi s < n by omega)).2.1
      have w2 := (ok _ (show tc_N se s < n by omega)).2.1
      have n1 := tc_nb_1 _ (tc_N ne (tc_N fi s)) w1
      have n2 := tc_nb_1 _ (tc_N ne (tc_N se s)) w2
      refine tc_RC_le (m := m + tc_N we (tc_N se s) * 16 ^ tc_N ne (tc_N se s) + tc_N we (tc_N fi s) * 16 ^ tc_N ne (tc_N fi s) + 1) ?_ (by have := tc_nb_a _ _ _ _ _ _ q3 q4 q5; omega)
      have ihx := ih (tc_N fi s) (by omega) (by omega)
      have ihy := ih (tc_N se s) (by omega) (by omega)
      generalize tc_N we (tc_N se s) * 16 ^ tc_N ne (tc_N se s) = NY at *
      generalize tc_N we (tc_N fi s) * 16 ^ tc_N ne (tc_N fi s) = NX at *
      have key : tc_RY post fn ka fi se th we ne (m + NY + NX) (h + 1 + 1) (upd (upd bg h (nI (tc_N se s))) (h + 1) (nI (tc_N fi s))) (upd (upd tm h (nI 1)) (h + 1) (nI 1)) A := by
        refine tc_pop0 pk_us pk_us (by omega) (by omega) (ihx (m + NY) (h + 1) _ _ A (by omega) (fun bg' tm' hag => ?_))
        have a0 := hag h (by omega)
        refine tc_pop0 (s := tc_N se s) (a0.1.trans ((pk_un (by omega)).trans pk_us)) (a0.2.trans ((pk_un (by omega)).trans ((pk_un (by omega)).trans pk_us))) (by omega) (by omega) (ihy m h _ _ _ (by omega) (fun bg2 tm2 hag2 => H bg2 tm2 (fun j hj => ?_)))
        have a1 := hag j (by omega)
        have a2 := hag2 j hj
        refine ⟨a2.1.trans (a1.1.trans ((pk_un (by omega)).trans (pk_un (by omega)))), a2.2.trans ((pk_un (by omega)).trans (a1.2.trans ((pk_un (by omega)).trans ((pk_un (by omega)).trans (pk_un (by omega))))))⟩
      intro step s1 s2
      obtain ⟨fuel, hfu⟩ := key (step + 1) (by omega) (by omega)
      refine ⟨fuel, ?_⟩
      delta wY_run_93 wpY_carryOut
      exact ⟨vin, nm_r (e' := nI 10) (ek.trans (congrArg nI k10)) (br_t rfl ⟨vin, tc_yput ey rfl (by decide) (by decide) (by omega) ⟨vin, tc_yput ex rfl (by decide) (by decide) (by omega) (nm_r (nI_1 step) hfu)⟩⟩)⟩
    rw [if_neg k10] at H
    have hx := ox k10
    have vx : vp_in (fi (nI s).toNatClampNeg) 6 := by rw [ex]; exact vp_in_nI hx (by omega)
    have evx : (fun j => tc_I (A.1 j)) (fi (nI s).toNatClampNeg).toNatClampNeg = tc_I (A.1 (tc_N fi s)) := by rw [ex, nI_clamp (by omega)]
    have c10 := tc_ne (v := tc_N ka s) (c := 10) (by omega) (by decide) k10
    by_cases k11 : tc_N ka s = 11
    · rw [if_pos k11] at H
      obtain ⟨q1, q2, q3, q4, q5⟩ := o11 k11
      have w1 := (ok _ (show tc_N se s < n by omega)).2.1
      have w2 := (ok _ (show tc_N th s < n by omega)).2.1
      have n1 := tc_nb_1 _ (tc_N ne (tc_N se s)) w1
      have n2 := tc_nb_1 _ (tc_N ne (tc_N th s)) w2
      have nba := tc_nb_a _ _ _ _ _ _ q3 (Nat.le_trans (Nat.le_succ _) q4) (Nat.le_trans (Nat.le_succ _) q5)
      have ihy := ih (tc_N se s) (by omega) (by omega)
      have ihz := ih (tc_N th s) (by omega) (by omega)
      generalize tc_N we (tc_N se s) * 16 ^ tc_N ne (tc_N se s) = NY at *
      generalize tc_N we (tc_N th s) * 16 ^ tc_N ne (tc_N th s) = NZ at *
      by_cases v0 : A.1 (tc_N fi s) = 0
      · rw [if_pos v0] at H
        have key : tc_RY post fn ka fi se th we ne (m + NZ) (h + 1) (upd bg h (nI (tc_N th s))) (upd tm h (nI 1)) A := by
          refine tc_pop0 pk_us pk_us (by omega) (by omega) (ihz m h _ _ A (by omega) (fun bg' tm' hag => H bg' tm' (fun j hj => ?_)))
          have a1 := hag j hj
          exact ⟨a1.1.trans (pk_un (by omega)), a1.2.trans ((pk_un (by omega)).trans (pk_un (by omega)))⟩
        refine tc_RC_le (m := m + NZ + 1) ?_ (by omega)
        intro step s1 s2
        obtain ⟨fuel, hfu⟩ := key (step + 1) (by omega) (by omega)
        refine ⟨fuel, ?_⟩
        delta wY_run_93 wpY_carryOut
        exact ⟨vin, nm_r (e' := nI 11) (ek.trans (congrArg nI k11)) (br_f (by decide) (br_t rfl ⟨vin, vx, br_t (evx.trans ((tc_I0 _).mpr v0)) ⟨vin, tc_yput ez rfl (by decide) (by decide) (by omega) (nm_r (nI_1 step) hfu)⟩⟩))⟩
      · rw [if_neg v0] at H
        have key : tc_RY post fn ka fi se th we ne (m + NY) (h + 1) (upd bg h (nI (tc_N se s))) (upd tm h (nI 1)) A := by
          refine tc_pop0 pk_us pk_us (by omega) (by omega) (ihy m h _ _ A (by omega) (fun bg' tm' hag => H bg' tm' (fun j hj => ?_)))
          have a1 := hag j hj
          exact ⟨a1.1.trans (pk_un (by omega)), a1.2.trans ((pk_un (by omega)).trans (pk_un (by omega)))⟩
        refine tc_RC_le (m := m + NY + 1) ?_ (by omega)
        intro step s1 s2
        obtain ⟨fuel, hfu⟩ := key (step + 1) (by omega) (by omega)
        refine ⟨fuel, ?_⟩
        delta wY_run_93 wpY_carryOut
        exact ⟨vin, nm_r (e' := nI 11) (ek.trans (congrArg nI k11)) (br_f (by decide) (br_t rfl ⟨vin, vx, br_f (fun c => v0 ((tc_I0 _).mp (evx.symm.trans c))) ⟨vin, tc_yput ey rfl (by decide) (by decide) (by omega) (nm_r (nI_1 step) hfu)⟩⟩))⟩
    rw [if_neg k11] at H
    have c11 := tc_ne (v := tc_N ka s) (c := 11) (by omega) (by decide) k11
    by_cases k12 : tc_N ka s = 12
    · rw [if_pos k12] at H
      obtain ⟨q1, q2, q3⟩ := o12 k12
      have w1 := (ok _ (show tc_N se s < n by omega)).2.1
      have n1 := tc_nb_1 _ (tc_N ne (tc_N se s)) w1
      have nbr := tc_nb_r _ _ _ _ q2 q3
      have ihy := ih (tc_N se s) (by omega) (by omega)
      generalize tc_N we (tc_N se s) * 16 ^ tc_N ne (tc_N se s) = NY at *
      have hv := (A.1 (tc_N fi s)).isLt
      by_cases v0 : A.1 (tc_N fi s) = 0
      · rw [v0] at H
        have key := H bg tm (fun j hj => ⟨rfl, rfl⟩)
        refine tc_RC_le (m := m + 1) ?_ (by omega)
        intro step s1 s2
        obtain ⟨fuel, hfu⟩ := key (step + 1) (by omega) (Nat.le_succ_of_le s2)
        refine ⟨fuel, ?_⟩
        delta wY_run_93 wpY_carryOut
        exact ⟨vin, nm_r (e' := nI 12) (ek.trans (congrArg nI k12)) (br_f (by decide) (br_f (by decide) (br_t rfl ⟨vin, vin, vx, br_t (evx.trans ((tc_I0 _).mpr v0)) (nm_r (nI_1 step) hfu)⟩)))⟩
      · obtain ⟨c, hc⟩ : ∃ c, (A.1 (tc_N fi s)).val = c + 1 := by
          refine ⟨(A.1 (tc_N fi s)).val - 1, ?_⟩
          have : (A.1 (tc_N fi s)).val ≠ 0 := fun e => v0 (Fin.eq_of_val_eq e)
          omega
        rw [hc] at H
        have key : tc_RY post fn ka fi se th we ne (m + (c + 1) * NY) (h + 1) (upd bg h (nI (tc_N se s))) (upd tm h (nI (c + 1))) A := by
          refine tc_yrep (by omega) n1 (fun m' bg' tm' A' H' => ihy m' h bg' tm' A' (by omega) H') (fun m' bg' tm' A' H' => ihy m' (h + 1) bg' tm' A' (by omega) H') c m _ _ A (by omega) pk_us pk_us (fun bg' tm' hag => H bg' tm' (fun j hj => ?_))
          have a1 := hag j hj
          exact ⟨a1.1.trans (pk_un (by omega)), a1.2.trans (pk_un (by omega))⟩
        have hcN : (c + 1) * NY ≤ 15 * NY := Nat.mul_le_mul_right _ (by omega)
        refine tc_RC_le (m := m + (c + 1) * NY + 1) ?_ (by omega)
        intro step s1 s2
        obtain ⟨fuel, hfu⟩ := key (step + 1) (by omega) (by omega)
        refine ⟨fuel, ?_⟩
        delta wY_run_93 wpY_carryOut
        exact ⟨vin, nm_r (e' := nI 12) (ek.trans (congrArg nI k12)) (br_f (by decide) (br_f (by decide) (br_t rfl ⟨vin, vin, vx, tc_yput (c := c + 1) ey (evx.trans (congrArg nI hc)) (by omega) (by omega) (by omega) (nm_r (nI_1 step) hfu)⟩)))⟩
    rw [if_neg k12] at H
    have c12 := tc_ne (v := tc_N ka s) (c := 12) (by omega) (by decide) k12
    have key := H bg tm (fun j hj => ⟨rfl, rfl⟩)
    refine tc_RC_le (m := m + 1) ?_ (by omega)
    intro step s1 s2
    have hsaid := tc_evs_said (tc_N ka s) (tc_N fi s) (tc_N se s) (tc_N th s) A
    obtain ⟨fuel, hfu⟩ := key (step + 1) (by omega) (by omega)
    refine ⟨fuel, ?_⟩
    delta wY_run_93 wpY_carryOut
    refine ⟨vin, nm_r ek (br_f c10 (br_f c11 (br_f c12 ?_)))⟩
    exact tc_ysimple (tc_N ka s) (by omega) (tc_N_eq ka s) (tc_N_eq fi s) (tc_N_eq se s) (tc_N_eq th s) o1 k10 k11 k12 hx oy0 (fun e1 e2 => oy e1 e2 k10 k11 k12) (fun e => oz (by omega)) (by omega) _ rfl (nm_r (nI_1 step) hfu)
theorem tc_RY_end {m : Nat} {bg tm : Nat → Int32} {A : tc_A} (H : post (nI A.2.2.2) (fn, (nI 0), (nI A.2.2.2), ka, fi, se, th, we, ne, (fun j => tc_I (A.1 j)), (fun j => tc_I (A.2.1 j)), bg, tm, A.2.2.1)) : tc_RY post fn ka fi se th we ne m 0 bg tm A := by
  intro step h1 h2
  exact ⟨1, br_c (fun _ => H) (fun _ => br_t (nI_le (a := 0) (b := 0) (by omega) (by decide)) H)⟩
end
theorem tc_yrun {post : Int32 → SY → Prop} {n s : Nat} {hi pr : Int32} {ka fi se th we ne bg tm kept : Nat → Int32} {vs es : Nat → Fin 16} (hn : n ≤ 40) (hs : s < n) (ok : ∀ s, s < n → tc_Ok (tc_N ka) (tc_N fi) (tc_N se) (tc_N th) (tc_N we) (tc_N ne) s) (A : tc_A) (hA : A = tc_ev (tc_N ka) (tc_N fi) (tc_N se) (tc_N th) 40 s (vs, es, (kept, 0)))
    (hp : ∀ (hi' : Int32) (bg' tm' : Nat → Int32), post (nI A.2.2.2) (nI n, hi', (nI A.2.2.2), ka, fi, se, th, we, ne, (fun j => tc_I (A.1 j)), (fun j => tc_I (A.2.1 j)), bg', tm', A.2.2.1)) :
    wpY_run post (nI n, hi, pr, ka, fi, se, th, we, ne, (fun j => tc_I (vs j)), (fun j => tc_I (es j)), bg, tm, kept) (nI s) := by
  have oks := ok s hs
  have hb := tc_bnd_top oks.2.2.1 oks.2.2.2.1
  have n1 := tc_nb_1 _ (tc_N ne s) oks.2.1
  obtain ⟨n', rfl⟩ : ∃ n', n = n' + 1 := ⟨n - 1, by omega⟩
  have key : tc_RY post (nI (n' + 1)) ka fi se th we ne (0 + tc_N we s * 16 ^ tc_N ne s) (0 + 1) (upd bg 0 (nI s)) (upd tm 0 (nI 1)) (vs, es, (kept, 0)) := by
    refine tc_pop0 pk_us pk_us (by omega) (by omega) (tc_cy (n' + 1) hn ok 40 s hs (by omega) 0 0 _ _ _ (by have := oks.2.2.1; omega) (fun bg' tm' _ => ?_))
    rw [← hA]
    exact tc_RY_end (hp _ _ _)
  obtain ⟨fuel, hf⟩ := key 0 (by omega) (Nat.le_refl _)
  delta wpY_run wpY_isStatement wpY_in
  refine br_f (nI_pos (by omega)) (br_f ?_ ⟨rfl, br_f (by decide) ?_⟩)
  · rw [nI_pred]
    exact nI_nlt (by omega) (by omega)
  · exact tc_yput (fn := nI (n' + 1)) (A := (vs, es, (kept, 0))) (h := 0) (c := 1) rfl rfl (by decide) (by decide) (by decide) ⟨fuel, hf⟩
end
section
/-! part 16: the relation, the small methods, run (made by wip/whole/gen16.py) -/
def tc_u (p : Int32) : Nat := p.toBitVec.toNat
theorem tc_u_eq (p : Int32) : p = nI (tc_u p) := (tc_nIu p).symm
theorem tc_u_nI {j : Nat} (h : j < 2 ^ 31) : tc_u (nI j) = j := pk_tn (by omega)
theorem tc_x_in {P : Int32 → Prop} (p : Int32) (b : Nat) (hb : b < 2 ^ 31) (h1 : tc_u p < b → P 1) (h0 : ¬ tc_u p < b → P 0) : (p < 0 → P 0) ∧ (¬ p < 0 → ((nI b ≤ p → P 0) ∧ (¬ nI b ≤ p → P 1))) := by
  refine br_c (fun hn => h0 ?_) (fun hn => ?_)
  · intro hu
    rw [tc_u_eq p] at hn
    exact nI_pos (by omega) hn
  · obtain ⟨j, hj, rfl⟩ := nI_of hn
    rw [tc_u_nI hj] at h1 h0
    exact pk_le b j (fun h => h0 (by omega)) (fun h => h1 h)
theorem tc_y_in {P : Int32 → Prop} (p : Int32) (b : Nat) (c : Int32) (hc : c = nI b - 1) (hb : b < 2 ^ 31) (h1 : tc_u p < b → P 1) (h0 : ¬ tc_u p < b → P 0) : (p < 0 → P 0) ∧ (¬ p < 0 → ((c < p → P 0) ∧ (¬ c < p → P 1))) := by
  subst hc
  refine br_c (fun hn => h0 ?_) (fun hn => ?_)
  · intro hu
    rw [tc_u_eq p] at hn
    exact nI_pos (by omega) hn
  · obtain ⟨j, hj, rfl⟩ := nI_of hn
    rw [tc_u_nI hj] at h1 h0
    cases b with
    | zero =>
      refine br_t ?_ (h0 (by omega))
      refine Int32.lt_of_lt_of_le (b := 0) (by decide) (nI_pos' hj)
    | succ b =>
      rw [nI_pred]
      exact pk_lt b j (fun h => h0 (by omega)) (fun h => h1 (by omega))
theorem tc_nb (r : Int32) (h : r = 0 ∨ r = 1) : narrow .boolean (.int r) = .int r := by
  rcases h with h | h
  · subst h; rfl
  · subst h; rfl
section
variable {P : Int32 → Prop} {n : Nat} {said lev ln pc wt nst hi : Int32} {ka fi se th we ne tape kept ops args tasks starts vr el bg tm : Nat → Int32}
theorem tc_xvar (p : Int32) (h1 : tc_u p < 6 → P 1) (h0 : ¬ tc_u p < 6 → P 0) : wpX_isVariable P (nI n, said, lev, ln, pc, wt, nst, ka, fi, se, th, we, ne, tape, kept, ops, args, tasks, starts) p := tc_x_in p 6 (by decide) h1 h0
theorem tc_xnum (p : Int32) (h1 : tc_u p < 16 → P 1) (h0 : ¬ tc_u p < 16 → P 0) : wpX_isNumber P (nI n, said, lev, ln, pc, wt, nst, ka, fi, se, th, we, ne, tape, kept, ops, args, tasks, starts) p := tc_x_in p 16 (by decide) h1 h0
theorem tc_xel (p : Int32) (h1 : tc_u p < 16 → P 1) (h0 : ¬ tc_u p < 16 → P 0) : wpX_isElement P (nI n, said, lev, ln, pc, wt, nst, ka, fi, se, th, we, ne, tape, kept, ops, args, tasks, starts) p := tc_x_in p 16 (by decide) h1 h0
theorem tc_xst (hn : n ≤ 40) (p : Int32) (h1 : tc_u p < n → P 1) (h0 : ¬ tc_u p < n → P 0) : wpX_isStatement P (nI n, said, lev, ln, pc, wt, nst, ka, fi, se, th, we, ne, tape, kept, ops, args, tasks, starts) p := tc_x_in p n (by omega) h1 h0
theorem tc_yvar (p : Int32) (h1 : tc_u p < 6 → P 1) (h0 : ¬ tc_u p < 6 → P 0) : wpY_isVariable P (nI n, hi, said, ka, fi, se, th, we, ne, vr, el, bg, tm, kept) p := tc_y_in (P := fun r => narrow .boolean (.int r) = .int r ∧ P r) p 6 5 (by decide) (by decide) (fun h => ⟨tc_nb _ (Or.inr rfl), h1 h⟩) (fun h => ⟨tc_nb _ (Or.inl rfl), h0 h⟩)
theorem tc_ynum (p : Int32) (h1 : tc_u p < 16 → P 1) (h0 : ¬ tc_u p < 16 → P 0) : wpY_in P (nI n, hi, said, ka, fi, se, th, we, ne, vr, el, bg, tm, kept) p 0 15 := tc_y_in p 16 15 (by decide) (by decide) h1 h0
theorem tc_yst (hn : n ≤ 40) (p : Int32) (h1 : tc_u p < n → P 1) (h0 : ¬ tc_u p < n → P 0) : wpY_isStatement P (nI n, hi, said, ka, fi, se, th, we, ne, vr, el, bg, tm, kept) p := tc_y_in (P := fun r => narrow .boolean (.int r) = .int r ∧ P r) p n _ rfl (by omega) (fun h => ⟨tc_nb _ (Or.inr rfl), h1 h⟩) (fun h => ⟨tc_nb _ (Or.inl rfl), h0 h⟩)
end
def i_Rel (k : Nat) (u : SX) (v : SY) : Prop :=
  ∃ (n : Nat) (vs es : Nat → Fin 16) (said lev ln pc wt nst hi : Int32) (ka fi se th we ne kept ops args tasks starts bg tm : Nat → Int32), n ≤ 40 ∧ (∀ s, s < n → tc_Ok (tc_N ka) (tc_N fi) (tc_N se) (tc_N th) (tc_N we) (tc_N ne) s) ∧ u = (nI n, said, lev, ln, pc, wt, nst, ka, fi, se, th, we, ne, (fun j => tc_I (tc_tp vs es (fun _ => 0) j)), kept, ops, args, tasks, starts) ∧ v = (nI n, hi, said, ka, fi, se, th, we, ne, (fun j => tc_I (vs j)), (fun j => tc_I (es j)), bg, tm, kept)
theorem i_up {k : Nat} {u : SX} {v : SY} (h : i_Rel k u v) : i_Rel (k + 5) u v := h
theorem i_vc0 : wpX_init (fun u => wpY_init (fun v => i_Rel 0 u v)) := by
  refine ⟨0, fun _ => 0, fun _ => 0, 0, 1, 0, 0, 0, 0, 0, fun _ => 0, fun _ => 0, fun _ => 0, fun _ => 0, fun _ => 0, fun _ => 0, fun _ => 0, fun _ => 0, fun _ => 0, fun _ => 0, fun _ => 0, fun _ => 0, fun _ => 0, by omega, fun s hs => absurd hs (Nat.not_lt_zero s), ?_, rfl⟩
  have : (fun j => tc_I (tc_tp (fun _ => 0) (fun _ => 0) (fun _ => 0) j)) = (fun _ => (0 : Int32)) := by
    funext j
    have : tc_tp (fun _ => 0) (fun _ => 0) (fun _ => 0) j = 0 := by
      simp only [tc_tp]
      grind
    rw [this]
    rfl
  rw [this]
  rfl
theorem i_vc_drop {k : Nat} {u : SX} {v : SY} (I : i_Rel k u v) (hk : k + 5 ≤ 2560) : wpX_drop (fun r u' => wpY_drop (fun r' v' => r' = r ∧ i_Rel (k + 5) u' v') v) u := by
  obtain ⟨n, vs, es, said, lev, ln, pc, wt, nst, hi, ka, fi, se, th, we, ne, kept, ops, args, tasks, starts, bg, tm, hn, ok, rfl, rfl⟩ := I
  exact ⟨rfl, 0, vs, es, said, lev, ln, pc, wt, nst, hi, ka, fi, se, th, we, ne, kept, ops, args, tasks, starts, bg, tm, by omega, fun s hs => absurd hs (Nat.not_lt_zero s), rfl, rfl⟩
theorem i_vc_printed {k : Nat} {u : SX} {v : SY} (I : i_Rel k u v) (hk : k + 5 ≤ 2560) : wpX_printed (fun r => wpY_printed (fun r' => r' = r ∧ i_Rel (k + 5) u v) v) u := by
  have I0 := I
  obtain ⟨n, vs, es, said, lev, ln, pc, wt, nst, hi, ka, fi, se, th, we, ne, kept, ops, args, tasks, starts, bg, tm, hn, ok, rfl, rfl⟩ := I
  exact ⟨rfl, I0⟩
theorem i_vc_weight {k : Nat} {u : SX} {v : SY} (I : i_Rel k u v) (hk : k + 5 ≤ 2560) (v1 : Int32) : wpX_weight (fun r => wpY_weight (fun r' => r' = r ∧ i_Rel (k + 5) u v) v v1) u v1 := by
  have I0 := I
  obtain ⟨n, vs, es, said, lev, ln, pc, wt, nst, hi, ka, fi, se, th, we, ne, kept, ops, args, tasks, starts, bg, tm, hn, ok, rfl, rfl⟩ := I
  delta wpX_weight wpY_weight
  refine tc_xst hn v1 (fun h => br_f (by decide) ?_) (fun h => br_t rfl (tc_yst hn v1 (fun h' => absurd h' h) (fun _ => br_t rfl ⟨rfl, I0⟩)))
  have vin : vp_in v1 40 := by rw [tc_u_eq v1]; exact vp_in_nI (by omega) (by omega)
  exact ⟨vin, tc_yst hn v1 (fun _ => br_f (by decide) ⟨vin, rfl, I0⟩) (fun h' => absurd h h')⟩
theorem i_vc_variable {k : Nat} {u : SX} {v : SY} (I : i_Rel k u v) (hk : k + 5 ≤ 2560) (v1 : Int32) : wpX_variable (fun r => wpY_variable (fun r' => r' = r ∧ i_Rel (k + 5) u v) v v1) u v1 := by
  have I0 := I
  obtain ⟨n, vs, es, said, lev, ln, pc, wt, nst, hi, ka, fi, se, th, we, ne, kept, ops, args, tasks, starts, bg, tm, hn, ok, rfl, rfl⟩ := I
  delta wpX_variable wpY_variable
  refine tc_xvar v1 (fun h => br_f (by decide) ?_) (fun h => br_t rfl (tc_yvar v1 (fun h' => absurd h' h) (fun _ => br_t rfl ⟨rfl, I0⟩)))
  have e1 : v1 = nI (tc_u v1) := tc_u_eq v1
  generalize tc_u v1 = x at *
  subst e1
  have cl : (nI x).toNatClampNeg = x := nI_clamp (by omega)
  refine ⟨vp_in_nI (by omega) (by omega), tc_yvar _ (fun _ => br_f (by decide) ⟨vp_in_nI h (by omega), ?_, I0⟩) (fun h' => absurd (by rw [tc_u_nI (by omega)]; exact h) h')⟩
  rw [cl]
  exact congrArg tc_I (tc_tp_v _ _ _ h).symm
theorem i_vc_setVariable {k : Nat} {u : SX} {v : SY} (I : i_Rel k u v) (hk : k + 5 ≤ 2560) (v1 : Int32) (v2 : Int32) : wpX_setVariable (fun r u' => wpY_setVariable (fun r' v' => r' = r ∧ i_Rel (k + 5) u' v') v v1 v2) u v1 v2 := by
  have I0 := I
  obtain ⟨n, vs, es, said, lev, ln, pc, wt, nst, hi, ka, fi, se, th, we, ne, kept, ops, args, tasks, starts, bg, tm, hn, ok, rfl, rfl⟩ := I
  delta wpX_setVariable wpY_setVariable
  refine tc_xvar v1 (fun h => br_f (by decide) ?_) (fun h => br_t rfl (tc_yvar v1 (fun h' => absurd h' h) (fun _ => br_t rfl ⟨rfl, I0⟩)))
  refine tc_xnum v2 (fun g => br_f (by decide) ?_) (fun g => br_t rfl (tc_yvar v1 (fun _ => br_f (by decide) (tc_ynum v2 (fun g' => absurd g' g) (fun _ => br_t rfl ⟨rfl, I0⟩))) (fun h' => absurd h h')))
  have ex : v1 = nI (tc_u v1) := tc_u_eq v1
  have ey : v2 = tc_I (tc_toV v2) := by rw [tc_u_eq v2]; exact tc_toV_lt g
  have cl : v1.toNatClampNeg = tc_u v1 := by rw [ex, nI_clamp (by omega), tc_u_nI (by omega)]
  have vi1 : vp_in v1 128 := by rw [ex]; exact vp_in_nI (by omega) (by omega)
  have vi2 : vp_in v1 6 := by rw [ex]; exact vp_in_nI (by omega) (by omega)
  refine ⟨vi1, nm_r (e' := fun j => tc_I (tc_tp (tc_up vs (tc_u v1) (tc_toV v2)) es (fun _ => 0) j)) ?_ (tc_yvar v1 (fun _ => br_f (by decide) (tc_ynum v2 (fun _ => br_f (by decide) ⟨vi2, nm_r (e' := fun j => tc_I (tc_up vs (tc_u v1) (tc_toV v2) j)) ?_ ⟨rfl, ?_⟩⟩) (fun g' => absurd g g'))) (fun h' => absurd h h'))⟩
  · rw [cl]
    exact (congrArg (upd _ _) ey).trans ((tc_updI _ _ _).trans (by rw [tc_tp_uv _ _ _ _ h]))
  · rw [cl]
    exact (congrArg (upd _ _) ey).trans (tc_updI _ _ _)
  · exact ⟨n, tc_up vs (tc_u v1) (tc_toV v2), es, said, lev, ln, pc, wt, nst, hi, ka, fi, se, th, we, ne, kept, ops, args, tasks, starts, bg, tm, hn, ok, rfl, rfl⟩
theorem tc_elc {i : Nat} (h : i < 16) : (17 + 4 * nI i : Int32) = nI (17 + 4 * i) := by
  rw [show (17 : Int32) = nI 17 from rfl, show (4 : Int32) = nI 4 from rfl, pk_mul, nI_add]
theorem i_vc_element {k : Nat} {u : SX} {v : SY} (I : i_Rel k u v) (hk : k + 5 ≤ 2560) (v1 : Int32) : wpX_element (fun r => wpY_element (fun r' => r' = r ∧ i_Rel (k + 5) u v) v v1) u v1 := by
  have I0 := I
  obtain ⟨n, vs, es, said, lev, ln, pc, wt, nst, hi, ka, fi, se, th, we, ne, kept, ops, args, tasks, starts, bg, tm, hn, ok, rfl, rfl⟩ := I
  delta wpX_element wpY_element
  refine tc_xel v1 (fun h => br_f (by decide) ?_) (fun h => br_t rfl (tc_ynum v1 (fun h' => absurd h' h) (fun _ => br_t rfl ⟨rfl, I0⟩)))
  have ex : v1 = nI (tc_u v1) := tc_u_eq v1
  have cl : v1.toNatClampNeg = tc_u v1 := by rw [ex, nI_clamp (by omega), tc_u_nI (by omega)]
  have e17 : 17 + 4 * v1 = nI (17 + 4 * tc_u v1) := (congrArg (fun q => 17 + 4 * q) ex).trans (tc_elc h)
  have vi2 : vp_in v1 16 := by rw [ex]; exact vp_in_nI (by omega) (by omega)
  refine ⟨by rw [e17]; exact vp_in_nI (by omega) (by omega), tc_ynum v1 (fun _ => br_f (by decide) ⟨vi2, ?_, I0⟩) (fun h' => absurd h h')⟩
  rw [e17, cl, nI_clamp (by omega)]
  exact congrArg tc_I (tc_tp_e _ _ _ h).symm
theorem i_vc_setElement {k : Nat} {u : SX} {v : SY} (I : i_Rel k u v) (hk : k + 5 ≤ 2560) (v1 : Int32) (v2 : Int32) : wpX_setElement (fun r u' => wpY_setElement (fun r' v' => r' = r ∧ i_Rel (k + 5) u' v') v v1 v2) u v1 v2 := by
  have I0 := I
  obtain ⟨n, vs, es, said, lev, ln, pc, wt, nst, hi, ka, fi, se, th, we, ne, kept, ops, args, tasks, starts, bg, tm, hn, ok, rfl, rfl⟩ := I
  delta wpX_setElement wpY_setElement
  refine tc_xel v1 (fun h => br_f (by decide) ?_) (fun h => br_t rfl (tc_ynum v1 (fun h' => absurd h' h) (fun _ => br_t rfl ⟨rfl, I0⟩)))
  refine tc_xnum v2 (fun g => br_f (by decide) ?_) (fun g => br_t rfl (tc_ynum v1 (fun _ => br_f (by decide) (tc_ynum v2 (fun g' => absurd g' g) (fun _ => br_t rfl ⟨rfl, I0⟩))) (fun h' => absurd h h')))
  have ex : v1 = nI (tc_u v1) := tc_u_eq v1
  have ey : v2 = tc_I (tc_toV v2) := by rw [tc_u_eq v2]; exact tc_toV_lt g
  have cl : v1.toNatClampNeg = tc_u v1 := by rw [ex, nI_clamp (by omega), tc_u_nI (by omega)]
  have e17 : 17 + 4 * v1 = nI (17 + 4 * tc_u v1) := (congrArg (fun q => 17 + 4 * q) ex).trans (tc_elc h)
  have vi2 : vp_in v1 16 := by rw [ex]; exact vp_in_nI (by omega) (by omega)
  refine ⟨by rw [e17]; exact vp_in_nI (by omega) (by omega), nm_r (e' := fun j => tc_I (tc_tp vs (tc_up es (tc_u v1) (tc_toV v2)) (fun _ => 0) j)) ?_ (tc_ynum v1 (fun _ => br_f (by decide) (tc_ynum v2 (fun _ => br_f (by decide) ⟨vi2, nm_r (e' := fun j => tc_I (tc_up es (tc_u v1) (tc_toV v2) j)) ?_ ⟨rfl, ?_⟩⟩) (fun g' => absurd g g'))) (fun h' => absurd h h'))⟩
  · rw [e17, nI_clamp (by omega)]
    exact (congrArg (upd _ _) ey).trans ((tc_updI _ _ _).trans (by rw [tc_tp_ue _ _ _ _ h]))
  · rw [cl]
    exact (congrArg (upd _ _) ey).trans (tc_updI _ _ _)
  · exact ⟨n, vs, tc_up es (tc_u v1) (tc_toV v2), said, lev, ln, pc, wt, nst, hi, ka, fi, se, th, we, ne, kept, ops, args, tasks, starts, bg, tm, hn, ok, rfl, rfl⟩
theorem i_vc_output {k : Nat} {u : SX} {v : SY} (I : i_Rel k u v) (hk : k + 5 ≤ 2560) (v1 : Int32) : wpX_output (fun r => wpY_output (fun r' => r' = r ∧ i_Rel (k + 5) u v) v v1) u v1 := by
  have I0 := I
  obtain ⟨n, vs, es, said, lev, ln, pc, wt, nst, hi, ka, fi, se, th, we, ne, kept, ops, args, tasks, starts, bg, tm, hn, ok, rfl, rfl⟩ := I
  delta wpX_output wpY_output wpY_in
  by_cases h0 : v1 < 0
  · exact br_t h0 (br_t h0 (br_t rfl ⟨rfl, I0⟩))
  refine br_f h0 ?_
  obtain ⟨j, hj, rfl⟩ := nI_of h0
  by_cases h4 : j < 40
  · have q1 : ¬ (40 : Int32) ≤ nI j := nI_ge (b := 40) h4 (by decide)
    have q2 : ¬ (39 : Int32) < nI j := nI_nlt (a := 39) (by omega) (by decide)
    have vin : vp_in (nI j) 40 := vp_in_nI h4 (by omega)
    refine br_f q1 ?_
    by_cases hl : nI j < said
    · exact br_t hl ⟨vin, br_f h0 (br_f q2 (br_f (by decide) (br_f (Int32.not_le.mpr hl) ⟨vin, rfl, I0⟩)))⟩
    · exact br_f hl (br_f h0 (br_f q2 (br_f (by decide) (br_t (Int32.not_lt.mp hl) ⟨rfl, I0⟩))))
  · have q1 : (40 : Int32) ≤ nI j := nI_le (a := 40) (by omega) hj
    have q2 : (39 : Int32) < nI j := nI_lt (a := 39) (by omega) hj
    exact br_t q1 (br_f h0 (br_t q2 (br_t rfl ⟨rfl, I0⟩)))
theorem i_vc_level {k : Nat} {u : SX} {v : SY} (I : i_Rel k u v) (hk : k + 5 ≤ 2560) (v1 : Int32) : wpX_level (fun r u' => wpY_level (fun r' => r' = r ∧ i_Rel (k + 5) u' v) v v1) u v1 := by
  have I0 := I
  obtain ⟨n, vs, es, said, lev, ln, pc, wt, nst, hi, ka, fi, se, th, we, ne, kept, ops, args, tasks, starts, bg, tm, hn, ok, rfl, rfl⟩ := I
  delta wpX_level wpY_level
  by_cases h0 : v1 < 0
  · have q0 : ¬ v1 = 0 := fun e => by rw [e] at h0; exact absurd h0 (by decide)
    have q1 : ¬ v1 = 1 := fun e => by rw [e] at h0; exact absurd h0 (by decide)
    exact br_t h0 (br_f q0 (br_f q1 ⟨rfl, I0⟩))
  refine br_f h0 ?_
  obtain ⟨j, hj, rfl⟩ := nI_of h0
  have R : i_Rel (k + 5) (nI n, said, nI j, ln, pc, wt, nst, ka, fi, se, th, we, ne, (fun j => tc_I (tc_tp vs es (fun _ => 0) j)), kept, ops, args, tasks, starts) (nI n, hi, said, ka, fi, se, th, we, ne, (fun j => tc_I (vs j)), (fun j => tc_I (es j)), bg, tm, kept) := ⟨n, vs, es, said, nI j, ln, pc, wt, nst, hi, ka, fi, se, th, we, ne, kept, ops, args, tasks, starts, bg, tm, hn, ok, rfl, rfl⟩
  by_cases j0 : j = 0
  · subst j0
    exact br_t (by decide) (br_t rfl ⟨rfl, R⟩)
  by_cases j1 : j = 1
  · subst j1
    exact br_t (by decide) (br_f (by decide) (br_t rfl ⟨rfl, R⟩))
  have q0 : ¬ nI j = 0 := nI_ne0 (by omega) hj
  have q1 : ¬ nI j = 1 := fun e => j1 ((nI_eq hj (by decide)).mp (show nI j = nI 1 from e))
  exact br_f (nI_ge (a := 1) (by omega) hj) (br_f q0 (br_f q1 ⟨rfl, I0⟩))
theorem i_vc_run {k : Nat} {u : SX} {v : SY} (I : i_Rel k u v) (hk : k + 5 ≤ 2560) (v1 : Int32) : wpX_run (fun r u' => wpY_run (fun r' v' => r' = r ∧ i_Rel (k + 5) u' v') v v1) u v1 := by
  have I0 := I
  obtain ⟨n, vs, es, said, lev, ln, pc, wt, nst, hi, ka, fi, se, th, we, ne, kept, ops, args, tasks, starts, bg, tm, hn, ok, rfl, rfl⟩ := I
  by_cases h : tc_u v1 < n
  · have ex : v1 = nI (tc_u v1) := tc_u_eq v1
    generalize tc_u v1 = s at *
    subst ex
    refine tc_xrun hn h ok _ rfl ?_
    intro ln' pc' wt' nst' ops' args' tasks' starts'
    refine tc_yrun hn h ok _ rfl ?_
    intro hi' bg' tm'
    exact ⟨rfl, n, _, _, _, lev, ln', pc', wt', nst', hi', ka, fi, se, th, we, ne, _, ops', args', tasks', starts', bg', tm', hn, ok, rfl, rfl⟩
  · delta wpX_run wpY_run
    exact tc_xst hn v1 (fun h' => absurd h' h) (fun _ => br_t rfl (tc_yst hn v1 (fun h' => absurd h' h) (fun _ => br_t rfl ⟨rfl, I0⟩)))
end
section
/-! part 17: stating (made by wip/whole/gen17.py) -/
def tc_Fit (n k a b c : Nat) : Prop :=
  if k = 0 then a < 6 ∧ b < 16 else if k = 9 then a < 6 else if k = 10 then a < n ∧ b < n else if k = 11 then a < 6 ∧ b < n ∧ c < n else if k = 12 then a < 6 ∧ b < n else if k = 4 ∨ k = 5 ∨ k = 6 ∨ k = 13 then a < 6 ∧ b < 6 ∧ c < 6 else a < 6 ∧ b < 6
def tc_mx (a b : Nat) : Nat := if a ≤ b then b else a
def tc_w (N : Nat → Nat) (k a b c : Nat) : Nat := if k = 10 then 1 + N a + N b else if k = 11 then 1 + N b + N c else if k = 12 then 1 + N b else 1
def tc_d (N : Nat → Nat) (k a b c : Nat) : Nat := if k = 10 then tc_mx (N a) (N b) else if k = 11 then 1 + tc_mx (N b) (N c) else if k = 12 then 1 + N b else 0
theorem tc_mx_l (a b : Nat) : a ≤ tc_mx a b := by unfold tc_mx; split <;> omega
theorem tc_mx_r (a b : Nat) : b ≤ tc_mx a b := by unfold tc_mx; split <;> omega
theorem tc_mx_u (a b m : Nat) (h1 : a ≤ m) (h2 : b ≤ m) : tc_mx a b ≤ m := by unfold tc_mx; split <;> omega
section
variable {P : Int32 → Prop} {n : Nat} {said lev ln pc wt nst hi : Int32} {ka fi se th we ne tape kept ops args tasks starts vr el bg tm : Nat → Int32}
theorem tc_x94 (p1 p2 : Int32) (h1 : tc_u p1 < 6 ∧ tc_u p2 < 6 → P 1) (h0 : ¬ (tc_u p1 < 6 ∧ tc_u p2 < 6) → P 0) : wX_operandsFit_94 P p1 p2 (nI n) (said) (lev) (ln) (pc) (wt) (nst) (ka) (fi) (se) (th) (we) (ne) (tape) (kept) (ops) (args) (tasks) (starts) := by
  delta wX_operandsFit_94
  exact tc_xvar p1 (fun a1 => br_f (by decide) (tc_xvar p2 (fun a2 => br_f (by decide) (h1 ⟨a1, a2⟩)) (fun a2 => br_t rfl (h0 (fun c => a2 c.2))))) (fun a1 => br_t rfl (h0 (fun c => a1 c.1)))
theorem tc_x116 (p1 p2 p3 : Int32) (h1 : tc_u p1 < 6 ∧ tc_u p2 < 6 ∧ tc_u p3 < 6 → P 1) (h0 : ¬ (tc_u p1 < 6 ∧ tc_u p2 < 6 ∧ tc_u p3 < 6) → P 0) : wX_operandsFit_116 P p1 p2 p3 (nI n) (said) (lev) (ln) (pc) (wt) (nst) (ka) (fi) (se) (th) (we) (ne) (tape) (kept) (ops) (args) (tasks) (starts) := by
  delta wX_operandsFit_116
  exact tc_xvar p1 (fun a1 => br_f (by decide) (tc_xvar p2 (fun a2 => br_f (by decide) (tc_xvar p3 (fun a3 => br_f (by decide) (h1 ⟨a1, a2, a3⟩)) (fun a3 => br_t rfl (h0 (fun c => a3 c.2.2))))) (fun a2 => br_t rfl (h0 (fun c => a2 c.2.1))))) (fun a1 => br_t rfl (h0 (fun c => a1 c.1)))
theorem tc_y161a (p1 p2 p3 : Int32) (h1 : tc_u p1 < 6 ∧ tc_u p2 < 6 → P 1) (h0 : ¬ (tc_u p1 < 6 ∧ tc_u p2 < 6) → P 0) : wY_fits_161 P p1 p2 p3 0 (nI n) (hi) (said) (ka) (fi) (se) (th) (we) (ne) (vr) (el) (bg) (tm) (kept) := by
  delta wY_fits_161
  exact tc_yvar p1 (fun a1 => br_f (by decide) (tc_yvar p2 (fun a2 => br_f (by decide) (br_t rfl (h1 ⟨a1, a2⟩))) (fun a2 => br_t rfl (h0 (fun c => a2 c.2))))) (fun a1 => br_t rfl (h0 (fun c => a1 c.1)))
theorem tc_y156 (p1 p2 p3 : Int32) (h1 : tc_u p1 < 6 ∧ tc_u p2 < 6 ∧ tc_u p3 < 6 → P 1) (h0 : ¬ (tc_u p1 < 6 ∧ tc_u p2 < 6 ∧ tc_u p3 < 6) → P 0) : wY_fits_156 P p1 p2 p3 (nI n) (hi) (said) (ka) (fi) (se) (th) (we) (ne) (vr) (el) (bg) (tm) (kept) := by
  delta wY_fits_156 wY_fits_161
  exact tc_yvar p1 (fun a1 => br_f (by decide) (tc_yvar p2 (fun a2 => br_f (by decide) (br_f (by decide) (tc_yvar p3 (fun a3 => br_f (by decide) (h1 ⟨a1, a2, a3⟩)) (fun a3 => br_t rfl (h0 (fun c => a3 c.2.2)))))) (fun a2 => br_t rfl (h0 (fun c => a2 c.2.1))))) (fun a1 => br_t rfl (h0 (fun c => a1 c.1)))
theorem tc_xf0 (hn : n ≤ 40) (p1 p2 p3 : Int32) (h1 : tc_u p1 < 6 ∧ tc_u p2 < 16 → P 1) (h0 : ¬ (tc_u p1 < 6 ∧ tc_u p2 < 16) → P 0) : wpX_operandsFit P (nI n, said, lev, ln, pc, wt, nst, ka, fi, se, th, we, ne, tape, kept, ops, args, tasks, starts) (nI 0) p1 p2 p3 := by
  delta wpX_operandsFit
  exact br_f (by decide) (br_f (by decide) (br_t rfl (tc_xvar p1 (fun a1 => br_f (by decide) (tc_xnum p2 (fun a2 => br_f (by decide) (h1 ⟨a1, a2⟩)) (fun a2 => br_t rfl (h0 (fun c => a2 c.2))))) (fun a1 => br_t rfl (h0 (fun c => a1 c.1))))))
theorem tc_yf0 (hn : n ≤ 40) (p1 p2 p3 : Int32) (h1 : tc_u p1 < 6 ∧ tc_u p2 < 16 → P 1) (h0 : ¬ (tc_u p1 < 6 ∧ tc_u p2 < 16) → P 0) : wpY_fits P (nI n, hi, said, ka, fi, se, th, we, ne, vr, el, bg, tm, kept) (nI 0) p1 p2 p3 := by
  delta wpY_fits
  exact br_t rfl (tc_yvar p1 (fun a1 => br_f (by decide) (tc_ynum p2 (fun a2 => br_f (by decide) (h1 ⟨a1, a2⟩)) (fun a2 => br_t rfl (h0 (fun c => a2 c.2))))) (fun a1 => br_t rfl (h0 (fun c => a1 c.1))))
theorem tc_xf1 (hn : n ≤ 40) (p1 p2 p3 : Int32) (h1 : tc_u p1 < 6 ∧ tc_u p2 < 6 → P 1) (h0 : ¬ (tc_u p1 < 6 ∧ tc_u p2 < 6) → P 0) : wpX_operandsFit P (nI n, said, lev, ln, pc, wt, nst, ka, fi, se, th, we, ne, tape, kept, ops, args, tasks, starts) (nI 1) p1 p2 p3 := by
  delta wpX_operandsFit
  exact br_f (by decide) (br_f (by decide) (br_f (by decide) (br_t rfl (tc_x94 p1 p2 h1 h0))))
theorem tc_yf1 (hn : n ≤ 40) (p1 p2 p3 : Int32) (h1 : tc_u p1 < 6 ∧ tc_u p2 < 6 → P 1) (h0 : ¬ (tc_u p1 < 6 ∧ tc_u p2 < 6) → P 0) : wpY_fits P (nI n, hi, said, ka, fi, se, th, we, ne, vr, el, bg, tm, kept) (nI 1) p1 p2 p3 := by
  delta wpY_fits
  exact br_f (by decide) (br_f (by decide) (br_f (by decide) (br_f (by decide) (br_f (by decide) (br_f (by decide) (br_f (by decide) (br_f (by decide) (br_f (by decide) (tc_y161a p1 p2 p3 h1 h0)))))))))
theorem tc_xf2 (hn : n ≤ 40) (p1 p2 p3 : Int32) (h1 : tc_u p1 < 6 ∧ tc_u p2 < 6 → P 1) (h0 : ¬ (tc_u p1 < 6 ∧ tc_u p2 < 6) → P 0) : wpX_operandsFit P (nI n, said, lev, ln, pc, wt, nst, ka, fi, se, th, we, ne, tape, kept, ops, args, tasks, starts) (nI 2) p1 p2 p3 := by
  delta wpX_operandsFit
  exact br_f (by decide) (br_f (by decide) (br_f (by decide) (br_f (by decide) (br_t rfl (tc_x94 p1 p2 h1 h0)))))
theorem tc_yf2 (hn : n ≤ 40) (p1 p2 p3 : Int32) (h1 : tc_u p1 < 6 ∧ tc_u p2 < 6 → P 1) (h0 : ¬ (tc_u p1 < 6 ∧ tc_u p2 < 6) → P 0) : wpY_fits P (nI n, hi, said, ka, fi, se, th, we, ne, vr, el, bg, tm, kept) (nI 2) p1 p2 p3 := by
  delta wpY_fits
  exact br_f (by decide) (br_f (by decide) (br_f (by decide) (br_f (by decide) (br_f (by decide) (br_f (by decide) (br_f (by decide) (br_f (by decide) (br_f (by decide) (tc_y161a p1 p2 p3 h1 h0)))))))))
theorem tc_xf3 (hn : n ≤ 40) (p1 p2 p3 : Int32) (h1 : tc_u p1 < 6 ∧ tc_u p2 < 6 → P 1) (h0 : ¬ (tc_u p1 < 6 ∧ tc_u p2 < 6) → P 0) : wpX_operandsFit P (nI n, said, lev, ln, pc, wt, nst, ka, fi, se, th, we, ne, tape, kept, ops, args, tasks, starts) (nI 3) p1 p2 p3 := by
  delta wpX_operandsFit
  exact br_f (by decide) (br_f (by decide) (br_f (by decide) (br_f (by decide) (br_f (by decide) (br_t rfl (tc_x94 p1 p2 h1 h0))))))
theorem tc_yf3 (hn : n ≤ 40) (p1 p2 p3 : Int32) (h1 : tc_u p1 < 6 ∧ tc_u p2 < 6 → P 1) (h0 : ¬ (tc_u p1 < 6 ∧ tc_u p2 < 6) → P 0) : wpY_fits P (nI n, hi, said, ka, fi, se, th, we, ne, vr, el, bg, tm, kept) (nI 3) p1 p2 p3 := by
  delta wpY_fits
  exact br_f (by decide) (br_f (by decide) (br_f (by decide) (br_f (by decide) (br_f (by decide) (br_f (by decide) (br_f (by decide) (br_f (by decide) (br_f (by decide) (tc_y161a p1 p2 p3 h1 h0)))))))))
theorem tc_xf4 (hn : n ≤ 40) (p1 p2 p3 : Int32) (h1 : tc_u p1 < 6 ∧ tc_u p2 < 6 ∧ tc_u p3 < 6 → P 1) (h0 : ¬ (tc_u p1 < 6 ∧ tc_u p2 < 6 ∧ tc_u p3 < 6) → P 0) : wpX_operandsFit P (nI n, said, lev, ln, pc, wt, nst, ka, fi, se, th, we, ne, tape, kept, ops, args, tasks, starts) (nI 4) p1 p2 p3 := by
  delta wpX_operandsFit
  exact br_f (by decide) (br_f (by decide) (br_f (by decide) (br_f (by decide) (br_f (by decide) (br_f (by decide) (br_t rfl (tc_x116 p1 p2 p3 h1 h0)))))))
theorem tc_yf4 (hn : n ≤ 40) (p1 p2 p3 : Int32) (h1 : tc_u p1 < 6 ∧ tc_u p2 < 6 ∧ tc_u p3 < 6 → P 1) (h0 : ¬ (tc_u p1 < 6 ∧ tc_u p2 < 6 ∧ tc_u p3 < 6) → P 0) : wpY_fits P (nI n, hi, said, ka, fi, se, th, we, ne, vr, el, bg, tm, kept) (nI 4) p1 p2 p3 := by
  delta wpY_fits
  exact br_f (by decide) (br_f (by decide) (br_f (by decide) (br_f (by decide) (br_f (by decide) (br_t rfl (tc_y156 p1 p2 p3 h1 h0))))))
theorem tc_xf5 (hn : n ≤ 40) (p1 p2 p3 : Int32) (h1 : tc_u p1 < 6 ∧ tc_u p2 < 6 ∧ tc_u p3 < 6 → P 1) (h0 : ¬ (tc_u p1 < 6 ∧ tc_u p2 < 6 ∧ tc_u p3 < 6) → P 0) : wpX_operandsFit P (nI n, said, lev, ln, pc, wt, nst, ka, fi, se, th, we, ne, tape, kept, ops, args, tasks, starts) (nI 5) p1 p2 p3 := by
  delta wpX_operandsFit
  exact br_f (by decide) (br_f (by decide) (br_f (by decide) (br_f (by decide) (br_f (by decide) (br_f (by decide) (br_f (by decide) (br_t rfl (tc_x116 p1 p2 p3 h1 h0))))))))
theorem tc_yf5 (hn : n ≤ 40) (p1 p2 p3 : Int32) (h1 : tc_u p1 < 6 ∧ tc_u p2 < 6 ∧ tc_u p3 < 6 → P 1) (h0 : ¬ (tc_u p1 < 6 ∧ tc_u p2 < 6 ∧ tc_u p3 < 6) → P 0) : wpY_fits P (nI n, hi, said, ka, fi, se, th, we, ne, vr, el, bg, tm, kept) (nI 5) p1 p2 p3 := by
  delta wpY_fits
  exact br_f (by decide) (br_f (by decide) (br_f (by decide) (br_f (by decide) (br_f (by decide) (br_f (by decide) (br_t rfl (tc_y156 p1 p2 p3 h1 h0)))))))
theorem tc_xf6 (hn : n ≤ 40) (p1 p2 p3 : Int32) (h1 : tc_u p1 < 6 ∧ tc_u p2 < 6 ∧ tc_u p3 < 6 → P 1) (h0 : ¬ (tc_u p1 < 6 ∧ tc_u p2 < 6 ∧ tc_u p3 < 6) → P 0) : wpX_operandsFit P (nI n, said, lev, ln, pc, wt, nst, ka, fi, se, th, we, ne, tape, kept, ops, args, tasks, starts) (nI 6) p1 p2 p3 := by
  delta wpX_operandsFit
  exact br_f (by decide) (br_f (by decide) (br_f (by decide) (br_f (by decide) (br_f (by decide) (br_f (by decide) (br_f (by decide) (br_f (by decide) (br_t rfl (tc_x116 p1 p2 p3 h1 h0)))))))))
theorem tc_yf6 (hn : n ≤ 40) (p1 p2 p3 : Int32) (h1 : tc_u p1 < 6 ∧ tc_u p2 < 6 ∧ tc_u p3 < 6 → P 1) (h0 : ¬ (tc_u p1 < 6 ∧ tc_u p2 < 6 ∧ tc_u p3 < 6) → P 0) : wpY_fits P (nI n, hi, said, ka, fi, se, th, we, ne, vr, el, bg, tm, kept) (nI 6) p1 p2 p3 := by
  delta wpY_fits
  exact br_f (by decide) (br_f (by decide) (br_f (by decide) (br_f (by decide) (br_f (by decide) (br_f (by decide) (br_f (by decide) (br_t rfl (tc_y156 p1 p2 p3 h1 h0))))))))
theorem tc_xf7 (hn : n ≤ 40) (p1 p2 p3 : Int32) (h1 : tc_u p1 < 6 ∧ tc_u p2 < 6 → P 1) (h0 : ¬ (tc_u p1 < 6 ∧ tc_u p2 < 6) → P 0) : wpX_operandsFit P (nI n, said, lev, ln, pc, wt, nst, ka, fi, se, th, we, ne, tape, kept, ops, args, tasks, starts) (nI 7) p1 p2 p3 := by
  delta wpX_operandsFit
  exact br_f (by decide) (br_f (by decide) (br_f (by decide) (br_f (by decide) (br_f (by decide) (br_f (by decide) (br_f (by decide) (br_f (by decide) (br_f (by decide) (br_t rfl (tc_x94 p1 p2 h1 h0))))))))))
theorem tc_yf7 (hn : n ≤ 40) (p1 p2 p3 : Int32) (h1 : tc_u p1 < 6 ∧ tc_u p2 < 6 → P 1) (h0 : ¬ (tc_u p1 < 6 ∧ tc_u p2 < 6) → P 0) : wpY_fits P (nI n, hi, said, ka, fi, se, th, we, ne, vr, el, bg, tm, kept) (nI 7) p1 p2 p3 := by
  delta wpY_fits
  exact br_f (by decide) (br_f (by decide) (br_f (by decide) (br_f (by decide) (br_f (by decide) (br_f (by decide) (br_f (by decide) (br_f (by decide) (br_f (by decide) (tc_y161a p1 p2 p3 h1 h0)))))))))
theorem tc_xf8 (hn : n ≤ 40) (p1 p2 p3 : Int32) (h1 : tc_u p1 < 6 ∧ tc_u p2 < 6 → P 1) (h0 : ¬ (tc_u p1 < 6 ∧ tc_u p2 < 6) → P 0) : wpX_operandsFit P (nI n, said, lev, ln, pc, wt, nst, ka, fi, se, th, we, ne, tape, kept, ops, args, tasks, starts) (nI 8) p1 p2 p3 := by
  delta wpX_operandsFit
  exact br_f (by decide) (br_f (by decide) (br_f (by decide) (br_f (by decide) (br_f (by decide) (br_f (by decide) (br_f (by decide) (br_f (by decide) (br_f (by decide) (br_f (by decide) (br_t rfl (tc_x94 p1 p2 h1 h0)))))))))))
theorem tc_yf8 (hn : n ≤ 40) (p1 p2 p3 : Int32) (h1 : tc_u p1 < 6 ∧ tc_u p2 < 6 → P 1) (h0 : ¬ (tc_u p1 < 6 ∧ tc_u p2 < 6) → P 0) : wpY_fits P (nI n, hi, said, ka, fi, se, th, we, ne, vr, el, bg, tm, kept) (nI 8) p1 p2 p3 := by
  delta wpY_fits
  exact br_f (by decide) (br_f (by decide) (br_f (by decide) (br_f (by decide) (br_f (by decide) (br_f (by decide) (br_f (by decide) (br_f (by decide) (br_f (by decide) (tc_y161a p1 p2 p3 h1 h0)))))))))
theorem tc_xf9 (hn : n ≤ 40) (p1 p2 p3 : Int32) (h1 : tc_u p1 < 6 → P 1) (h0 : ¬ (tc_u p1 < 6) → P 0) : wpX_operandsFit P (nI n, said, lev, ln, pc, wt, nst, ka, fi, se, th, we, ne, tape, kept, ops, args, tasks, starts) (nI 9) p1 p2 p3 := by
  delta wpX_operandsFit
  exact br_f (by decide) (br_f (by decide) (br_f (by decide) (br_f (by decide) (br_f (by decide) (br_f (by decide) (br_f (by decide) (br_f (by decide) (br_f (by decide) (br_f (by decide) (br_f (by decide) (br_t rfl (tc_xvar p1 (fun a => ⟨tc_nb _ (Or.inr rfl), h1 a⟩) (fun a => ⟨tc_nb _ (Or.inl rfl), h0 a⟩)))))))))))))
theorem tc_yf9 (hn : n ≤ 40) (p1 p2 p3 : Int32) (h1 : tc_u p1 < 6 → P 1) (h0 : ¬ (tc_u p1 < 6) → P 0) : wpY_fits P (nI n, hi, said, ka, fi, se, th, we, ne, vr, el, bg, tm, kept) (nI 9) p1 p2 p3 := by
  delta wpY_fits
  exact br_f (by decide) (br_t rfl (tc_yvar p1 (fun a => ⟨tc_nb _ (Or.inr rfl), h1 a⟩) (fun a => ⟨tc_nb _ (Or.inl rfl), h0 a⟩)))
theorem tc_xf10 (hn : n ≤ 40) (p1 p2 p3 : Int32) (h1 : tc_u p1 < n ∧ tc_u p2 < n → P 1) (h0 : ¬ (tc_u p1 < n ∧ tc_u p2 < n) → P 0) : wpX_operandsFit P (nI n, said, lev, ln, pc, wt, nst, ka, fi, se, th, we, ne, tape, kept, ops, args, tasks, starts) (nI 10) p1 p2 p3 := by
  delta wpX_operandsFit
  exact br_f (by decide) (br_f (by decide) (br_f (by decide) (br_f (by decide) (br_f (by decide) (br_f (by decide) (br_f (by decide) (br_f (by decide) (br_f (by decide) (br_f (by decide) (br_f (by decide) (br_f (by decide) (br_t rfl (tc_xst hn p1 (fun a1 => br_f (by decide) (tc_xst hn p2 (fun a2 => br_f (by decide) (h1 ⟨a1, a2⟩)) (fun a2 => br_t rfl (h0 (fun c => a2 c.2))))) (fun a1 => br_t rfl (h0 (fun c => a1 c.1))))))))))))))))
theorem tc_yf10 (hn : n ≤ 40) (p1 p2 p3 : Int32) (h1 : tc_u p1 < n ∧ tc_u p2 < n → P 1) (h0 : ¬ (tc_u p1 < n ∧ tc_u p2 < n) → P 0) : wpY_fits P (nI n, hi, said, ka, fi, se, th, we, ne, vr, el, bg, tm, kept) (nI 10) p1 p2 p3 := by
  delta wpY_fits
  exact br_f (by decide) (br_f (by decide) (br_t rfl (tc_yst hn p1 (fun a1 => br_f (by decide) (tc_yst hn p2 (fun a2 => br_f (by decide) (h1 ⟨a1, a2⟩)) (fun a2 => br_t rfl (h0 (fun c => a2 c.2))))) (fun a1 => br_t rfl (h0 (fun c => a1 c.1))))))
theorem tc_xf11 (hn : n ≤ 40) (p1 p2 p3 : Int32) (h1 : tc_u p1 < 6 ∧ tc_u p2 < n ∧ tc_u p3 < n → P 1) (h0 : ¬ (tc_u p1 < 6 ∧ tc_u p2 < n ∧ tc_u p3 < n) → P 0) : wpX_operandsFit P (nI n, said, lev, ln, pc, wt, nst, ka, fi, se, th, we, ne, tape, kept, ops, args, tasks, starts) (nI 11) p1 p2 p3 := by
  delta wpX_operandsFit
  exact br_f (by decide) (br_f (by decide) (br_f (by decide) (br_f (by decide) (br_f (by decide) (br_f (by decide) (br_f (by decide) (br_f (by decide) (br_f (by decide) (br_f (by decide) (br_f (by decide) (br_f (by decide) (br_f (by decide) (br_t rfl (tc_xvar p1 (fun a1 => br_f (by decide) (tc_xst hn p2 (fun a2 => br_f (by decide) (tc_xst hn p3 (fun a3 => br_f (by decide) (h1 ⟨a1, a2, a3⟩)) (fun a3 => br_t rfl (h0 (fun c => a3 c.2.2))))) (fun a2 => br_t rfl (h0 (fun c => a2 c.2.1))))) (fun a1 => br_t rfl (h0 (fun c => a1 c.1)))))))))))))))))
theorem tc_yf11 (hn : n ≤ 40) (p1 p2 p3 : Int32) (h1 : tc_u p1 < 6 ∧ tc_u p2 < n ∧ tc_u p3 < n → P 1) (h0 : ¬ (tc_u p1 < 6 ∧ tc_u p2 < n ∧ tc_u p3 < n) → P 0) : wpY_fits P (nI n, hi, said, ka, fi, se, th, we, ne, vr, el, bg, tm, kept) (nI 11) p1 p2 p3 := by
  delta wpY_fits
  exact br_f (by decide) (br_f (by decide) (br_f (by decide) (br_t rfl (tc_yvar p1 (fun a1 => br_f (by decide) (tc_yst hn p2 (fun a2 => br_f (by decide) (tc_yst hn p3 (fun a3 => br_f (by decide) (h1 ⟨a1, a2, a3⟩)) (fun a3 => br_t rfl (h0 (fun c => a3 c.2.2))))) (fun a2 => br_t rfl (h0 (fun c => a2 c.2.1))))) (fun a1 => br_t rfl (h0 (fun c => a1 c.1)))))))
theorem tc_xf12 (hn : n ≤ 40) (p1 p2 p3 : Int32) (h1 : tc_u p1 < 6 ∧ tc_u p2 < n → P 1) (h0 : ¬ (tc_u p1 < 6 ∧ tc_u p2 < n) → P 0) : wpX_operandsFit P (nI n, said, lev, ln, pc, wt, nst, ka, fi, se, th, we, ne, tape, kept, ops, args, tasks, starts) (nI 12) p1 p2 p3 := by
  delta wpX_operandsFit
  exact br_f (by decide) (br_f (by decide) (br_f (by decide) (br_f (by decide) (br_f (by decide) (br_f (by decide) (br_f (by decide) (br_f (by decide) (br_f (by decide) (br_f (by decide) (br_f (by decide) (br_f (by decide) (br_f (by decide) (br_f (by decide) (br_t rfl (tc_xvar p1 (fun a1 => br_f (by decide) (tc_xst hn p2 (fun a2 => br_f (by decide) (h1 ⟨a1, a2⟩)) (fun a2 => br_t rfl (h0 (fun c => a2 c.2))))) (fun a1 => br_t rfl (h0 (fun c => a1 c.1))))))))))))))))))
theorem tc_yf12 (hn : n ≤ 40) (p1 p2 p3 : Int32) (h1 : tc_u p1 < 6 ∧ tc_u p2 < n → P 1) (h0 : ¬ (tc_u p1 < 6 ∧ tc_u p2 < n) → P 0) : wpY_fits P (nI n, hi, said, ka, fi, se, th, we, ne, vr, el, bg, tm, kept) (nI 12) p1 p2 p3 := by
  delta wpY_fits
  exact br_f (by decide) (br_f (by decide) (br_f (by decide) (br_f (by decide) (br_t rfl (tc_yvar p1 (fun a1 => br_f (by decide) (tc_yst hn p2 (fun a2 => br_f (by decide) (h1 ⟨a1, a2⟩)) (fun a2 => br_t rfl (h0 (fun c => a2 c.2))))) (fun a1 => br_t rfl (h0 (fun c => a1 c.1))))))))
theorem tc_xf13 (hn : n ≤ 40) (p1 p2 p3 : Int32) (h1 : tc_u p1 < 6 ∧ tc_u p2 < 6 ∧ tc_u p3 < 6 → P 1) (h0 : ¬ (tc_u p1 < 6 ∧ tc_u p2 < 6 ∧ tc_u p3 < 6) → P 0) : wpX_operandsFit P (nI n, said, lev, ln, pc, wt, nst, ka, fi, se, th, we, ne, tape, kept, ops, args, tasks, starts) (nI 13) p1 p2 p3 := by
  delta wpX_operandsFit
  exact br_f (by decide) (br_f (by decide) (br_f (by decide) (br_f (by decide) (br_f (by decide) (br_f (by decide) (br_f (by decide) (br_f (by decide) (br_f (by decide) (br_f (by decide) (br_f (by decide) (br_f (by decide) (br_f (by decide) (br_f (by decide) (br_f (by decide) (br_t rfl (tc_x116 p1 p2 p3 h1 h0))))))))))))))))
theorem tc_yf13 (hn : n ≤ 40) (p1 p2 p3 : Int32) (h1 : tc_u p1 < 6 ∧ tc_u p2 < 6 ∧ tc_u p3 < 6 → P 1) (h0 : ¬ (tc_u p1 < 6 ∧ tc_u p2 < 6 ∧ tc_u p3 < 6) → P 0) : wpY_fits P (nI n, hi, said, ka, fi, se, th, we, ne, vr, el, bg, tm, kept) (nI 13) p1 p2 p3 := by
  delta wpY_fits
  exact br_f (by decide) (br_f (by decide) (br_f (by decide) (br_f (by decide) (br_f (by decide) (br_f (by decide) (br_f (by decide) (br_f (by decide) (br_t rfl (tc_y156 p1 p2 p3 h1 h0)))))))))
theorem tc_xfit (hn : n ≤ 40) (k : Nat) (hk : k < 14) (p1 p2 p3 : Int32) (h1 : tc_Fit n k (tc_u p1) (tc_u p2) (tc_u p3) → P 1) (h0 : ¬ tc_Fit n k (tc_u p1) (tc_u p2) (tc_u p3) → P 0) : wpX_operandsFit P (nI n, said, lev, ln, pc, wt, nst, ka, fi, se, th, we, ne, tape, kept, ops, args, tasks, starts) (nI k) p1 p2 p3 := by
  by_cases k0 : k = 0
  · subst k0
    exact tc_xf0 hn p1 p2 p3 h1 h0
  by_cases k1 : k = 1
  · subst k1
    exact tc_xf1 hn p1 p2 p3 h1 h0
  by_cases k2 : k = 2
  · subst k2
    exact tc_xf2 hn p1 p2 p3 h1 h0
  by_cases k3 : k = 3
  · subst k3
    exact tc_xf3 hn p1 p2 p3 h1 h0
  by_cases k4 : k = 4
  · subst k4
    exact tc_xf4 hn p1 p2 p3 h1 h0
  by_cases k5 : k = 5
  · subst k5
    exact tc_xf5 hn p1 p2 p3 h1 h0
  by_cases k6 : k = 6
  · subst k6
    exact tc_xf6 hn p1 p2 p3 h1 h0
  by_cases k7 : k = 7
  · subst k7
    exact tc_xf7 hn p1 p2 p3 h1 h0
  by_cases k8 : k = 8
  · subst k8
    exact tc_xf8 hn p1 p2 p3 h1 h0
  by_cases k9 : k = 9
  · subst k9
    exact tc_xf9 hn p1 p2 p3 h1 h0
  by_cases k10 : k = 10
  · subst k10
    exact tc_xf10 hn p1 p2 p3 h1 h0
  by_cases k11 : k = 11
  · subst k11
    exact tc_xf11 hn p1 p2 p3 h1 h0
  by_cases k12 : k = 12
  · subst k12
    exact tc_xf12 hn p1 p2 p3 h1 h0
  by_cases k13 : k = 13
  · subst k13
    exact tc_xf13 hn p1 p2 p3 h1 h0
  omega
theorem tc_yfit (hn : n ≤ 40) (k : Nat) (hk : k < 14) (p1 p2 p3 : Int32) (h1 : tc_Fit n k (tc_u p1) (tc_u p2) (tc_u p3) → P 1) (h0 : ¬ tc_Fit n k (tc_u p1) (tc_u p2) (tc_u p3) → P 0) : wpY_fits P (nI n, hi, said, ka, fi, se, th, we, ne, vr, el, bg, tm, kept) (nI k) p1 p2 p3 := by
  by_cases k0 : k = 0
  · subst k0
    exact tc_yf0 hn p1 p2 p3 h1 h0
  by_cases k1 : k = 1
  · subst k1
    exact tc_yf1 hn p1 p2 p3 h1 h0
  by_cases k2 : k = 2
  · subst k2
    exact tc_yf2 hn p1 p2 p3 h1 h0
  by_cases k3 : k = 3
  · subst k3
    exact tc_yf3 hn p1 p2 p3 h1 h0
  by_cases k4 : k = 4
  · subst k4
    exact tc_yf4 hn p1 p2 p3 h1 h0
  by_cases k5 : k = 5
  · subst k5
    exact tc_yf5 hn p1 p2 p3 h1 h0
  by_cases k6 : k = 6
  · subst k6
    exact tc_yf6 hn p1 p2 p3 h1 h0
  by_cases k7 : k = 7
  · subst k7
    exact tc_yf7 hn p1 p2 p3 h1 h0
  by_cases k8 : k = 8
  · subst k8
    exact tc_yf8 hn p1 p2 p3 h1 h0
  by_cases k9 : k = 9
  · subst k9
    exact tc_yf9 hn p1 p2 p3 h1 h0
  by_cases k10 : k = 10
  · subst k10
    exact tc_yf10 hn p1 p2 p3 h1 h0
  by_cases k11 : k = 11
  · subst k11
    exact tc_yf11 hn p1 p2 p3 h1 h0
  by_cases k12 : k = 12
  · subst k12
    exact tc_yf12 hn p1 p2 p3 h1 h0
  by_cases k13 : k = 13
  · subst k13
    exact tc_yf13 hn p1 p2 p3 h1 h0
  omega
end
end
section
/-! part 18: stating, the end (made by wip/whole/gen18.py) -/
theorem tc_clu {p : Int32} (h : tc_u p < 2 ^ 31) : p.toNatClampNeg = tc_u p := by
  have e := tc_u_eq p
  generalize tc_u p = j at *
  subst e
  exact nI_clamp h
theorem tc_vin {p : Int32} {b : Nat} (h : tc_u p < b) (hb : b < 2 ^ 31) : vp_in p b := by
  rw [tc_u_eq p]
  exact vp_in_nI h hb
section
variable {n : Nat} {said lev ln pc wt nst hi : Int32} {ka fi se th we ne tape kept ops args tasks starts vr el bg tm : Nat → Int32}
theorem tc_s1 (N : Nat) (w : Int32) (h : w = nI N) : 1 + w = nI (1 + N) := by
  rw [h, show (1 : Int32) = nI 1 from rfl, nI_add]
theorem tc_s2 (M N : Nat) (v w : Int32) (g : v = nI M) (h : w = nI N) : 1 + v + w = nI (1 + M + N) := by
  rw [tc_s1 M v g, h, nI_add]
theorem tc_s3 (M N : Nat) (v w : Int32) (g : v = nI M) (h : w = nI N) : 1 + (v + w) = nI (1 + M + N) := by
  rw [← Int32.add_assoc, tc_s2 M N v w g h]
theorem tc_at {a : Nat → Int32} {p : Int32} (h : tc_u p < 40) : a p.toNatClampNeg = nI (tc_N a (tc_u p)) := by
  rw [tc_clu (by omega)]
  exact tc_N_eq a _
theorem tc_xw {P : Int32 → Prop} (hn : n ≤ 40) (k : Nat) (hk : k < 14) (p1 p2 p3 : Int32) (F : tc_Fit n k (tc_u p1) (tc_u p2) (tc_u p3)) (h : P (nI (tc_w (tc_N we) k (tc_u p1) (tc_u p2) (tc_u p3)))) : wpX_weightOf P (nI n, said, lev, ln, pc, wt, nst, ka, fi, se, th, we, ne, tape, kept, ops, args, tasks, starts) (nI k) p1 p2 p3 := by
  delta wpX_weightOf
  by_cases k10 : k = 10
  · subst k10
    have F : tc_u p1 < n ∧ tc_u p2 < n := F
    exact br_f (by decide) (br_f (by decide) (br_t rfl ⟨tc_vin (by omega) (by omega), tc_vin (by omega) (by omega), by rw [tc_s2 _ _ _ _ (tc_at (by omega)) (tc_at (by omega))]; exact h⟩))
  by_cases k11 : k = 11
  · subst k11
    have F : tc_u p1 < 6 ∧ tc_u p2 < n ∧ tc_u p3 < n := F
    exact br_f (by decide) (br_f (by decide) (br_f (by decide) (br_t rfl ⟨tc_vin (by omega) (by omega), tc_vin (by omega) (by omega), by rw [tc_s2 _ _ _ _ (tc_at (by omega)) (tc_at (by omega))]; exact h⟩)))
  by_cases k12 : k = 12
  · subst k12
    have F : tc_u p1 < 6 ∧ tc_u p2 < n := F
    exact br_f (by decide) (br_f (by decide) (br_f (by decide) (br_f (by decide) (br_t rfl ⟨tc_vin (by omega) (by omega), by rw [tc_s1 _ _ (tc_at (by omega))]; exact h⟩))))
  unfold tc_w at h
  rw [if_neg k10, if_neg k11, if_neg k12] at h
  by_cases k9 : k < 10
  · exact br_t (nI_lt (b := 10) k9 (by decide)) h
  · have : k = 13 := by omega
    subst this
    exact br_f (by decide) (br_t (by decide) h)
theorem tc_xgr {P : Int32 → Prop} {v w : Int32} (a b : Nat) (hv : v = nI a) (hw : w = nI b) (ha : a < 100) (hb : b < 100) (h : P (nI (tc_mx a b))) : wpX_greater P (nI n, said, lev, ln, pc, wt, nst, ka, fi, se, th, we, ne, tape, kept, ops, args, tasks, starts) v w := by
  subst hv hw
  unfold tc_mx at h
  exact pk_le a b (fun c => by rw [if_pos c] at h; exact h) (fun c => by rw [if_neg (by omega)] at h; exact h)
theorem tc_ygr {P : Int32 → Prop} {v w : Int32} (a b : Nat) (hv : v = nI a) (hw : w = nI b) (ha : a < 100) (hb : b < 100) (h : P (nI (tc_mx a b))) : wpY_greater P (nI n, hi, said, ka, fi, se, th, we, ne, vr, el, bg, tm, kept) v w := by
  subst hv hw
  unfold tc_mx at h
  exact pk_le a b (fun c => by rw [if_pos c] at h; exact h) (fun c => by rw [if_neg (by omega)] at h; exact h)
theorem tc_xd {P : Int32 → Prop} (hn : n ≤ 40) (nb : ∀ s, s < n → tc_N ne s ≤ 2) (k : Nat) (hk : k < 14) (p1 p2 p3 : Int32) (F : tc_Fit n k (tc_u p1) (tc_u p2) (tc_u p3)) (h : P (nI (tc_d (tc_N ne) k (tc_u p1) (tc_u p2) (tc_u p3)))) : wpX_nestingOf P (nI n, said, lev, ln, pc, wt, nst, ka, fi, se, th, we, ne, tape, kept, ops, args, tasks, starts) (nI k) p1 p2 p3 := by
  delta wpX_nestingOf
  by_cases k10 : k = 10
  · subst k10
    have F : tc_u p1 < n ∧ tc_u p2 < n := F
    have b1 := nb _ F.1
    have b2 := nb _ F.2
    exact br_f (by decide) (br_f (by decide) (br_t rfl ⟨tc_vin (by omega) (by omega), tc_vin (by omega) (by omega), tc_xgr _ _ (tc_at (by omega)) (tc_at (by omega)) (by omega) (by omega) h⟩))
  by_cases k11 : k = 11
  · subst k11
    have F : tc_u p1 < 6 ∧ tc_u p2 < n ∧ tc_u p3 < n := F
    have b1 := nb _ F.2.1
    have b2 := nb _ F.2.2
    exact br_f (by decide) (br_f (by decide) (br_f (by decide) (br_t rfl ⟨tc_vin (by omega) (by omega), tc_vin (by omega) (by omega), tc_xgr _ _ (tc_at (by omega)) (tc_at (by omega)) (by omega) (by omega) (by rw [tc_s1 _ _ rfl]; exact h)⟩)))
  by_cases k12 : k = 12
  · subst k12
    have F : tc_u p1 < 6 ∧ tc_u p2 < n := F
    exact br_f (by decide) (br_f (by decide) (br_f (by decide) (br_f (by decide) (br_t rfl ⟨tc_vin (by omega) (by omega), by rw [tc_s1 _ _ (tc_at (by omega))]; exact h⟩))))
  unfold tc_d at h
  rw [if_neg k10, if_neg k11, if_neg k12] at h
  by_cases k9 : k < 10
  · exact br_t (nI_lt (b := 10) k9 (by decide)) h
  · have : k = 13 := by omega
    subst this
    exact br_f (by decide) (br_t (by decide) h)
theorem tc_xA {post : Int32 → SX → Prop} (p0 p1 p2 p3 : Int32) (e : n = 40) (h : post (-2) (nI n, said, lev, ln, pc, wt, nst, ka, fi, se, th, we, ne, tape, kept, ops, args, tasks, starts)) : wpX_state post (nI n, said, lev, ln, pc, wt, nst, ka, fi, se, th, we, ne, tape, kept, ops, args, tasks, starts) p0 p1 p2 p3 := by
  subst e
  exact br_f (by decide) h
theorem tc_yA {post : Int32 → SY → Prop} (p0 p1 p2 p3 : Int32) (e : n = 40) (h : post (-2) (nI n, hi, said, ka, fi, se, th, we, ne, vr, el, bg, tm, kept)) : wpY_state post (nI n, hi, said, ka, fi, se, th, we, ne, vr, el, bg, tm, kept) p0 p1 p2 p3 := by
  subst e
  exact br_t rfl h
theorem tc_k14 (p0 : Int32) (h : ¬ tc_u p0 < 14) : p0 < 0 ∨ (¬ p0 < 0 ∧ 13 < p0) := by
  by_cases h0 : p0 < 0
  · exact Or.inl h0
  · refine Or.inr ⟨h0, ?_⟩
    obtain ⟨j, hj, rfl⟩ := nI_of h0
    rw [tc_u_nI hj] at h
    exact nI_lt (a := 13) (by omega) hj
theorem tc_xB {post : Int32 → SX → Prop} (p0 p1 p2 p3 : Int32) (hn : n < 40) (e : ¬ tc_u p0 < 14) (h : post (-1) (nI n, said, lev, ln, pc, wt, nst, ka, fi, se, th, we, ne, tape, kept, ops, args, tasks, starts)) : wpX_state post (nI n, said, lev, ln, pc, wt, nst, ka, fi, se, th, we, ne, tape, kept, ops, args, tasks, starts) p0 p1 p2 p3 := by
  delta wpX_state
  refine br_t (nI_lt (b := 40) hn (by decide)) ?_
  delta wpX_operandsFit
  rcases tc_k14 p0 e with q | q
  · exact br_t q (br_t rfl h)
  · exact br_f q.1 (br_t q.2 (br_t rfl h))
theorem tc_n40 (hn : n < 40) : ¬ nI n = 40 := fun e => absurd ((nI_eq (by omega) (by decide)).mp (show nI n = nI 40 from e)) (by omega)
theorem tc_yB {post : Int32 → SY → Prop} (p0 p1 p2 p3 : Int32) (hn : n < 40) (e : ¬ tc_u p0 < 14) (h : post (-1) (nI n, hi, said, ka, fi, se, th, we, ne, vr, el, bg, tm, kept)) : wpY_state post (nI n, hi, said, ka, fi, se, th, we, ne, vr, el, bg, tm, kept) p0 p1 p2 p3 := by
  delta wpY_state
  refine br_f (tc_n40 hn) ?_
  delta wpY_in
  rcases tc_k14 p0 e with q | q
  · exact br_t q (br_t rfl h)
  · exact br_f q.1 (br_t q.2 (br_t rfl h))
theorem tc_xC {post : Int32 → SX → Prop} (k : Nat) (p1 p2 p3 : Int32) (hn : n < 40) (hk : k < 14) (F : ¬ tc_Fit n k (tc_u p1) (tc_u p2) (tc_u p3)) (h : post (-1) (nI n, said, lev, ln, pc, wt, nst, ka, fi, se, th, we, ne, tape, kept, ops, args, tasks, starts)) : wpX_state post (nI n, said, lev, ln, pc, wt, nst, ka, fi, se, th, we, ne, tape, kept, ops, args, tasks, starts) (nI k) p1 p2 p3 := by
  delta wpX_state
  exact br_t (nI_lt (b := 40) hn (by decide)) (tc_xfit (by omega) k hk p1 p2 p3 (fun f => absurd f F) (fun _ => br_t rfl h))
theorem tc_yk (P : Int32 → Prop) (k : Nat) (hk : k < 14) (h : P 1) : wpY_in P (nI n, hi, said, ka, fi, se, th, we, ne, vr, el, bg, tm, kept) (nI k) 0 13 := tc_y_in (nI k) 14 13 (by decide) (by decide) (fun _ => h) (fun c => absurd (by rw [tc_u_nI (by omega)]; exact hk) c)
theorem tc_yC {post : Int32 → SY → Prop} (k : Nat) (p1 p2 p3 : Int32) (hn : n < 40) (hk : k < 14) (F : ¬ tc_Fit n k (tc_u p1) (tc_u p2) (tc_u p3)) (h : post (-1) (nI n, hi, said, ka, fi, se, th, we, ne, vr, el, bg, tm, kept)) : wpY_state post (nI n, hi, said, ka, fi, se, th, we, ne, vr, el, bg, tm, kept) (nI k) p1 p2 p3 := by
  delta wpY_state
  exact br_f (tc_n40 hn) (tc_yk _ k hk (br_f (by decide) (tc_yfit (by omega) k hk p1 p2 p3 (fun f => absurd f F) (fun _ => br_t rfl h))))
theorem tc_xD {post : Int32 → SX → Prop} (k : Nat) (p1 p2 p3 : Int32) (hn : n < 40) (nb : ∀ s, s < n → tc_N ne s ≤ 2) (hk : k < 14) (F : tc_Fit n k (tc_u p1) (tc_u p2) (tc_u p3)) (w d : Nat) (hw : w = tc_w (tc_N we) k (tc_u p1) (tc_u p2) (tc_u p3)) (hd : d = tc_d (tc_N ne) k (tc_u p1) (tc_u p2) (tc_u p3)) (w1 : w < 100) (d1 : d < 100) (hwd : 12 < w ∨ 2 < d) (h : post (-2) (nI n, said, lev, ln, pc, wt, nst, ka, fi, se, th, we, ne, tape, kept, ops, args, tasks, starts)) : wpX_state post (nI n, said, lev, ln, pc, wt, nst, ka, fi, se, th, we, ne, tape, kept, ops, args, tasks, starts) (nI k) p1 p2 p3 := by
  delta wpX_state
  refine br_t (nI_lt (b := 40) hn (by decide)) (tc_xfit (by omega) k hk p1 p2 p3 (fun _ => br_f (by decide) (tc_xw (by omega) k hk p1 p2 p3 F (tc_xd (by omega) nb k hk p1 p2 p3 F ?_))) (fun c => absurd F c))
  rw [← hw, ← hd]
  exact pk_lt 12 w (fun _ => h) (fun c => br_f (nI_ge (a := 2) (by omega) (by omega)) h)
theorem tc_y158 {post : Int32 → SY → Prop} (k : Nat) (p1 p2 p3 : Int32) (hn : n ≤ 40) (wb : ∀ s, s < n → tc_N ne s ≤ 2) (hk : k < 14) (F : tc_Fit n k (tc_u p1) (tc_u p2) (tc_u p3)) (w d : Nat) (hw : w = tc_w (tc_N we) k (tc_u p1) (tc_u p2) (tc_u p3)) (hd : d = tc_d (tc_N ne) k (tc_u p1) (tc_u p2) (tc_u p3)) (h40 : n < 40) (h : wY_state_158 post (nI k) p1 p2 p3 (nI w) (nI d) (nI n) (hi) (said) (ka) (fi) (se) (th) (we) (ne) (vr) (el) (bg) (tm) (kept)) : wpY_state post (nI n, hi, said, ka, fi, se, th, we, ne, vr, el, bg, tm, kept) (nI k) p1 p2 p3 := by
  delta wpY_state
  refine br_f (tc_n40 h40) (tc_yk _ k hk (br_f (by decide) (tc_yfit (by omega) k hk p1 p2 p3 (fun _ => br_f (by decide) ?_) (fun c => absurd F c))))
  subst hw hd
  by_cases k10 : k = 10
  · subst k10
    have F : tc_u p1 < n ∧ tc_u p2 < n := F
    have b1 := wb _ F.1
    have b2 := wb _ F.2
    have v1 : vp_in p1 40 := tc_vin (by omega) (by omega)
    have v2 : vp_in p2 40 := tc_vin (by omega) (by omega)
    refine br_t rfl ⟨v1, v2, nm_r (tc_s3 _ _ _ _ (tc_at (by omega)) (tc_at (by omega))) ⟨v1, v2, tc_ygr _ _ (tc_at (by omega)) (tc_at (by omega)) (by omega) (by omega) ?_⟩⟩
    delta wY_state_85
    refine br_f (by decide) ?_
    delta wY_state_131
    exact br_f (by decide) h
  refine br_f (tc_ne (c := 10) (by omega) (by decide) k10) ?_
  delta wY_state_85
  by_cases k11 : k = 11
  · subst k11
    have F : tc_u p1 < 6 ∧ tc_u p2 < n ∧ tc_u p3 < n := F
    have b1 := wb _ F.2.1
    have b2 := wb _ F.2.2
    have v1 : vp_in p2 40 := tc_vin (by omega) (by omega)
    have v2 : vp_in p3 40 := tc_vin (by omega) (by omega)
    refine br_t rfl ⟨v1, v2, nm_r (tc_s3 _ _ _ _ (tc_at (by omega)) (tc_at (by omega))) ⟨v1, v2, tc_ygr _ _ (tc_at (by omega)) (tc_at (by omega)) (by omega) (by omega) (nm_r (tc_s1 _ _ rfl) ?_)⟩⟩
    delta wY_state_131
    exact br_f (by decide) h
  refine br_f (tc_ne (c := 11) (by omega) (by decide) k11) ?_
  delta wY_state_131
  by_cases k12 : k = 12
  · subst k12
    have F : tc_u p1 < 6 ∧ tc_u p2 < n := F
    have v1 : vp_in p2 40 := tc_vin (by omega) (by omega)
    exact br_t rfl ⟨v1, nm_r (tc_s1 _ _ (tc_at (by omega))) ⟨v1, nm_r (tc_s1 _ _ (tc_at (by omega))) h⟩⟩
  refine br_f (tc_ne (c := 12) (by omega) (by decide) k12) ?_
  unfold tc_w tc_d at h
  rw [if_neg k10, if_neg k11, if_neg k12, if_neg k10, if_neg k11, if_neg k12] at h
  exact h
theorem tc_yD {post : Int32 → SY → Prop} (k : Nat) (p1 p2 p3 : Int32) (hn : n < 40) (nb : ∀ s, s < n → tc_N ne s ≤ 2) (hk : k < 14) (F : tc_Fit n k (tc_u p1) (tc_u p2) (tc_u p3)) (w d : Nat) (hw : w = tc_w (tc_N we) k (tc_u p1) (tc_u p2) (tc_u p3)) (hd : d = tc_d (tc_N ne) k (tc_u p1) (tc_u p2) (tc_u p3)) (w1 : w < 100) (d1 : d < 100) (hwd : 12 < w ∨ 2 < d) (h : post (-2) (nI n, hi, said, ka, fi, se, th, we, ne, vr, el, bg, tm, kept)) : wpY_state post (nI n, hi, said, ka, fi, se, th, we, ne, vr, el, bg, tm, kept) (nI k) p1 p2 p3 := by
  refine tc_y158 k p1 p2 p3 (by omega) nb hk F w d hw hd hn ?_
  delta wY_state_158
  exact pk_lt 12 w (fun _ => h) (fun c => br_f (nI_ge (a := 2) (by omega) (by omega)) h)
theorem tc_xE {post : Int32 → SX → Prop} (k : Nat) (p0 p1 p2 p3 : Int32) (e0 : p0 = nI k) (hn : n < 40) (nb : ∀ s, s < n → tc_N ne s ≤ 2) (hk : k < 14) (F : tc_Fit n k (tc_u p1) (tc_u p2) (tc_u p3)) (w d : Nat) (hw : w = tc_w (tc_N we) k (tc_u p1) (tc_u p2) (tc_u p3)) (hd : d = tc_d (tc_N ne) k (tc_u p1) (tc_u p2) (tc_u p3)) (w1 : w ≤ 12) (d1 : d ≤ 2) (h : post (nI n) (nI (n + 1), said, lev, ln, pc, wt, nst, upd ka n p0, upd fi n p1, upd se n p2, upd th n p3, upd we n (nI w), upd ne n (nI d), tape, kept, ops, args, tasks, starts)) : wpX_state post (nI n, said, lev, ln, pc, wt, nst, ka, fi, se, th, we, ne, tape, kept, ops, args, tasks, starts) p0 p1 p2 p3 := by
  subst e0
  have cl : (nI n).toNatClampNeg = n := nI_clamp (by omega)
  have vin : vp_in (nI n) 40 := vp_in_nI hn (by omega)
  delta wpX_state
  refine br_t (nI_lt (b := 40) hn (by decide)) (tc_xfit (by omega) k hk p1 p2 p3 (fun _ => br_f (by decide) (tc_xw (by omega) k hk p1 p2 p3 F (tc_xd (by omega) nb k hk p1 p2 p3 F ?_))) (fun c => absurd F c))
  rw [← hw, ← hd]
  refine br_f (nI_nlt (a := 12) (by omega) (by omega)) (br_t (nI_le (b := 2) (by omega) (by decide)) ?_)
  rw [cl]
  exact ⟨vin, nm_e ⟨vin, nm_e ⟨vin, nm_e ⟨vin, nm_e ⟨vin, nm_e ⟨vin, nm_e (nm_r (nI_1 n) h)⟩⟩⟩⟩⟩⟩
theorem tc_yE {post : Int32 → SY → Prop} (k : Nat) (p0 p1 p2 p3 : Int32) (e0 : p0 = nI k) (hn : n < 40) (nb : ∀ s, s < n → tc_N ne s ≤ 2) (hk : k < 14) (F : tc_Fit n k (tc_u p1) (tc_u p2) (tc_u p3)) (w d : Nat) (hw : w = tc_w (tc_N we) k (tc_u p1) (tc_u p2) (tc_u p3)) (hd : d = tc_d (tc_N ne) k (tc_u p1) (tc_u p2) (tc_u p3)) (w1 : w ≤ 12) (d1 : d ≤ 2) (h : post (nI n) (nI (n + 1), hi, said, upd ka n p0, upd fi n p1, upd se n p2, upd th n p3, upd we n (nI w), upd ne n (nI d), vr, el, bg, tm, kept)) : wpY_state post (nI n, hi, said, ka, fi, se, th, we, ne, vr, el, bg, tm, kept) p0 p1 p2 p3 := by
  subst e0
  have cl : (nI n).toNatClampNeg = n := nI_clamp (by omega)
  have vin : vp_in (nI n) 40 := vp_in_nI hn (by omega)
  refine tc_y158 k p1 p2 p3 (by omega) nb hk F w d hw hd hn ?_
  delta wY_state_158
  refine br_f (nI_nlt (a := 12) (by omega) (by omega)) (br_t (nI_le (b := 2) (by omega) (by decide)) ?_)
  rw [cl]
  exact ⟨vin, nm_e ⟨vin, nm_e ⟨vin, nm_e ⟨vin, nm_e ⟨vin, nm_e ⟨vin, nm_e (nm_r (nI_1 n) (by rw [nI_pred]; exact h))⟩⟩⟩⟩⟩⟩
end
theorem tc_N_o (a : Nat → Int32) (n : Nat) (p : Int32) {s : Nat} (h : s ≠ n) : tc_N (upd a n p) s = tc_N a s := by
  unfold tc_N
  rw [pk_un h]
theorem tc_N_s (a : Nat → Int32) (n : Nat) (p : Int32) : tc_N (upd a n p) n = tc_u p := by
  unfold tc_N tc_u
  rw [pk_us]
theorem tc_Ok_congr {K X Y Z W N K' X' Y' Z' W' N' : Nat → Nat} {s : Nat} (h : ∀ j, j ≤ s → K' j = K j ∧ X' j = X j ∧ Y' j = Y j ∧ Z' j = Z j ∧ W' j = W j ∧ N' j = N j) (o : tc_Ok K X Y Z W N s) : tc_Ok K' X' Y' Z' W' N' s := by
  obtain ⟨e1, e2, e3, e4, e5, e6⟩ := h s (Nat.le_refl _)
  obtain ⟨o1, o2, o3, o4, o10, o11, o12, ox, oy0, oy, oz⟩ := o
  unfold tc_Ok
  rw [e1, e2, e3, e4, e5, e6]
  refine ⟨o1, o2, o3, o4, fun k => ?_, fun k => ?_, fun k => ?_, ox, oy0, oy, oz⟩
  · obtain ⟨q1, q2, q3, q4, q5⟩ := o10 k
    obtain ⟨a1, a2, a3, a4, a5, a6⟩ := h (X s) (by omega)
    obtain ⟨b1, b2, b3, b4, b5, b6⟩ := h (Y s) (by omega)
    rw [a5, a6, b5, b6]
    exact ⟨q1, q2, q3, q4, q5⟩
  · obtain ⟨q1, q2, q3, q4, q5⟩ := o11 k
    obtain ⟨a1, a2, a3, a4, a5, a6⟩ := h (Y s) (by omega)
    obtain ⟨b1, b2, b3, b4, b5, b6⟩ := h (Z s) (by omega)
    rw [a5, a6, b5, b6]
    exact ⟨q1, q2, q3, q4, q5⟩
  · obtain ⟨q1, q2, q3⟩ := o12 k
    obtain ⟨a1, a2, a3, a4, a5, a6⟩ := h (Y s) (by omega)
    rw [a5, a6]
    exact ⟨q1, q2, q3⟩
/-- the table with the new row -/
theorem tc_newok {n : Nat} {ka fi se th we ne : Nat → Int32} (k : Nat) (p1 p2 p3 : Int32) (hn : n < 40) (ok : ∀ s, s < n → tc_Ok (tc_N ka) (tc_N fi) (tc_N se) (tc_N th) (tc_N we) (tc_N ne) s) (hk : k < 14) (F : tc_Fit n k (tc_u p1) (tc_u p2) (tc_u p3)) (w d : Nat) (hw : w = tc_w (tc_N we) k (tc_u p1) (tc_u p2) (tc_u p3)) (hd : d = tc_d (tc_N ne) k (tc_u p1) (tc_u p2) (tc_u p3)) (w1 : w ≤ 12) (d1 : d ≤ 2) :
    ∀ s, s < n + 1 → tc_Ok (tc_N (upd ka n (nI k))) (tc_N (upd fi n p1)) (tc_N (upd se n p2)) (tc_N (upd th n p3)) (tc_N (upd we n (nI w))) (tc_N (upd ne n (nI d))) s := by
  intro s hs
  by_cases e : s = n
  · subst e
    unfold tc_Ok
    rw [tc_N_s, tc_N_s, tc_N_s, tc_N_s, tc_N_s, tc_N_s, tc_u_nI (by omega), tc_u_nI (by omega), tc_u_nI (by omega)]
    have wpos : 1 ≤ w := by
      rw [hw]
      unfold tc_w
      repeat' split
      all_goals omega
    refine ⟨by omega, wpos, w1, d1, fun k10 => ?_, fun k11 => ?_, fun k12 => ?_, ?_⟩
    · subst k10
      have F : tc_u p1 < s ∧ tc_u p2 < s := F
      have hd' : d = tc_mx (tc_N ne (tc_u p1)) (tc_N ne (tc_u p2)) := hd
      rw [tc_N_o _ _ _ (by omega), tc_N_o _ _ _ (by omega), tc_N_o _ _ _ (by omega), tc_N_o _ _ _ (by omega)]
      exact ⟨F.1, F.2, hw, by rw [hd']; exact tc_mx_l _ _, by rw [hd']; exact tc_mx_r _ _⟩
    · subst k11
      have F : tc_u p1 < 6 ∧ tc_u p2 < s ∧ tc_u p3 < s := F
      have hd' : d = 1 + tc_mx (tc_N ne (tc_u p2)) (tc_N ne (tc_u p3)) := hd
      have m1 := tc_mx_l (tc_N ne (tc_u p2)) (tc_N ne (tc_u p3))
      have m2 := tc_mx_r (tc_N ne (tc_u p2)) (tc_N ne (tc_u p3))
      rw [tc_N_o _ _ _ (by omega), tc_N_o _ _ _ (by omega), tc_N_o _ _ _ (by omega), tc_N_o _ _ _ (by omega)]
      exact ⟨F.2.1, F.2.2, hw, by omega, by omega⟩
    · subst k12
      have F : tc_u p1 < 6 ∧ tc_u p2 < s := F
      have hd' : d = 1 + tc_N ne (tc_u p2) := hd
      rw [tc_N_o _ _ _ (by omega), tc_N_o _ _ _ (by omega)]
      exact ⟨F.2, hw, by omega⟩
    · unfold tc_Fit at F
      repeat' split at F
      all_goals omega
  · exact tc_Ok_congr (fun j hj => ⟨tc_N_o _ _ _ (by omega), tc_N_o _ _ _ (by omega), tc_N_o _ _ _ (by omega), tc_N_o _ _ _ (by omega), tc_N_o _ _ _ (by omega), tc_N_o _ _ _ (by omega)⟩) (ok s (by omega))
theorem tc_wd100 {n k a b c w d : Nat} {W N : Nat → Nat} (nb : ∀ s, s < n → N s ≤ 2) (wb : ∀ s, s < n → W s ≤ 12) (F : tc_Fit n k a b c) (hw : w = tc_w W k a b c) (hd : d = tc_d N k a b c) : w < 100 ∧ d < 100 := by
  by_cases k10 : k = 10
  · subst k10
    have F : a < n ∧ b < n := F
    have hw : w = 1 + W a + W b := hw
    have hd : d = tc_mx (N a) (N b) := hd
    have a1 := nb _ F.1
    have a2 := nb _ F.2
    have a3 := wb _ F.1
    have a4 := wb _ F.2
    have := tc_mx_u (N a) (N b) 2 a1 a2
    omega
  by_cases k11 : k = 11
  · subst k11
    have F : a < 6 ∧ b < n ∧ c < n := F
    have hw : w = 1 + W b + W c := hw
    have hd : d = 1 + tc_mx (N b) (N c) := hd
    have a1 := nb _ F.2.1
    have a2 := nb _ F.2.2
    have a3 := wb _ F.2.1
    have a4 := wb _ F.2.2
    have := tc_mx_u (N b) (N c) 2 a1 a2
    omega
  by_cases k12 : k = 12
  · subst k12
    have F : a < 6 ∧ b < n := F
    have hw : w = 1 + W b := hw
    have hd : d = 1 + N b := hd
    have a1 := nb _ F.2
    have a3 := wb _ F.2
    omega
  unfold tc_w at hw
  unfold tc_d at hd
  rw [if_neg k10, if_neg k11, if_neg k12] at hw hd
  omega
theorem i_vc_state {k : Nat} {u : SX} {v : SY} (I : i_Rel k u v) (hk : k + 5 ≤ 2560) (v1 : Int32) (v2 : Int32) (v3 : Int32) (v4 : Int32) : wpX_state (fun r u' => wpY_state (fun r' v' => r' = r ∧ i_Rel (k + 5) u' v') v v1 v2 v3 v4) u v1 v2 v3 v4 := by
  have I0 := I
  obtain ⟨n, vs, es, said, lev, ln, pc, wt, nst, hi, ka, fi, se, th, we, ne, kept, ops, args, tasks, starts, bg, tm, hn, ok, rfl, rfl⟩ := I
  by_cases h40 : n = 40
  · exact tc_xA _ _ _ _ h40 (tc_yA _ _ _ _ h40 ⟨rfl, I0⟩)
  have h40 : n < 40 := by omega
  by_cases h14 : tc_u v1 < 14
  · obtain ⟨q, hq, e1⟩ : ∃ q, q < 14 ∧ v1 = nI q := ⟨tc_u v1, h14, tc_u_eq v1⟩
    by_cases F : tc_Fit n q (tc_u v2) (tc_u v3) (tc_u v4)
    · obtain ⟨w, hw⟩ : ∃ w, w = tc_w (tc_N we) q (tc_u v2) (tc_u v3) (tc_u v4) := ⟨_, rfl⟩
      obtain ⟨d, hd⟩ : ∃ d, d = tc_d (tc_N ne) q (tc_u v2) (tc_u v3) (tc_u v4) := ⟨_, rfl⟩
      have nb : ∀ s, s < n → tc_N ne s ≤ 2 := fun s hs => (ok s hs).2.2.2.1
      have wb : ∀ s, s < n → tc_N we s ≤ 12 := fun s hs => (ok s hs).2.2.1
      have hw100 : w < 100 ∧ d < 100 := tc_wd100 nb wb F hw hd
      by_cases hwd : 12 < w ∨ 2 < d
      · subst e1
        exact tc_xD q _ _ _ h40 nb hq F w d hw hd hw100.1 hw100.2 hwd (tc_yD q _ _ _ h40 nb hq F w d hw hd hw100.1 hw100.2 hwd ⟨rfl, I0⟩)
      · refine tc_xE q _ _ _ _ e1 h40 nb hq F w d hw hd (by omega) (by omega) (tc_yE q _ _ _ _ e1 h40 nb hq F w d hw hd (by omega) (by omega) ⟨rfl, ?_⟩)
        subst e1
        exact ⟨n + 1, vs, es, said, lev, ln, pc, wt, nst, hi, _, _, _, _, _, _, kept, ops, args, tasks, starts, bg, tm, by omega, tc_newok q v2 v3 v4 h40 ok hq F w d hw hd (by omega) (by omega), rfl, rfl⟩
    · subst e1
      exact tc_xC q _ _ _ h40 hq F (tc_yC q _ _ _ h40 hq F ⟨rfl, I0⟩)
  · exact tc_xB _ _ _ _ h40 h14 (tc_yB _ _ _ _ h40 h14 ⟨rfl, I0⟩)
end
