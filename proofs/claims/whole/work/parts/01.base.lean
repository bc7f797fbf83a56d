/-! part 01: pasted rows (kit/rows), then lists of tape code -/
theorem pk_us {f : Nat → Int32} {k : Nat} {x : Int32} : upd f k x k = x := if_pos rfl
theorem pk_un {f : Nat → Int32} {k j : Nat} {x : Int32} (h : j ≠ k) : upd f k x j = f j := if_neg h
theorem pk_sub {a b : Nat} (h : b ≤ a) : nI a - nI b = nI (a - b) := by
  obtain ⟨c, rfl⟩ : ∃ c, a = c + b := ⟨a - b, by omega⟩
  rw [← nI_add, Int32.add_sub_cancel, Nat.add_sub_cancel]
theorem pk_m1 (n : Nat) : nI (n + 1) + (-1) = nI n := by
  rw [← nI_1, Int32.add_assoc, show (1 : Int32) + (-1) = 0 from rfl, Int32.add_zero]
theorem pk_mul (a b : Nat) : nI a * nI b = nI (a * b) := (Int32.ofNat_mul a b).symm
theorem pk_div {a d : Nat} (ha : a < 2 ^ 31) (h0 : 0 < d) (hd : d < 2 ^ 31) : nI a / nI d = nI (a / d) := by
  apply Int32.toInt_inj.mp
  rw [lg_idiv_nonneg (by rw [nI_toInt ha]; omega) (by rw [nI_toInt hd]; omega), nI_toInt ha, nI_toInt hd, nI_toInt (Nat.lt_of_le_of_lt (Nat.div_le_self a d) ha)]
  first | rfl | exact (Int.natCast_ediv _ _).symm
theorem pk_ix (x : Int32) {n : Nat} (hn : n < 2 ^ 31) : x < 0 ∨ nI n ≤ x ∨ ∃ j : Nat, j < n ∧ x = nI j := by
  by_cases h : x < 0
  · exact Or.inl h
  · obtain ⟨j, hj, rfl⟩ := nI_of h
    by_cases h2 : j < n
    · exact Or.inr (Or.inr ⟨j, h2, rfl⟩)
    · exact Or.inr (Or.inl (nI_le (by omega) hj))
theorem pk_le {x y : Int32} {A B : Prop} (a b : Nat) (f : a ≤ b → A) (g : b < a → B) (hx : x = nI a := by rfl) (hy : y = nI b := by rfl) (ha : a < 2 ^ 31 := by omega) (hb : b < 2 ^ 31 := by omega) : (x ≤ y → A) ∧ (¬ x ≤ y → B) := by
  subst hx hy
  rw [nI_leI ha hb]
  exact ⟨f, fun z => g (by omega)⟩
theorem pk_lt {x y : Int32} {A B : Prop} (a b : Nat) (f : a < b → A) (g : b ≤ a → B) (hx : x = nI a := by rfl) (hy : y = nI b := by rfl) (ha : a < 2 ^ 31 := by omega) (hb : b < 2 ^ 31 := by omega) : (x < y → A) ∧ (¬ x < y → B) := by
  subst hx hy
  rw [nI_ltI ha hb]
  exact ⟨f, fun z => g (by omega)⟩
theorem pk_eq {x y : Int32} {A B : Prop} (a b : Nat) (f : a = b → A) (g : a ≠ b → B) (hx : x = nI a := by rfl) (hy : y = nI b := by rfl) (ha : a < 2 ^ 31 := by omega) (hb : b < 2 ^ 31 := by omega) : (x = y → A) ∧ (¬ x = y → B) := by
  subst hx hy
  rw [nI_eq ha hb]
  exact ⟨f, g⟩
theorem pk_in {x : Int32} (n N : Nat) (h : n < N) (hx : x = nI n := by rfl) (hN : N < 2 ^ 31 := by omega) : vp_in x N := by
  subst hx
  exact vp_in_nI h hN
theorem pk_cl {x : Int32} (n : Nat) (hx : x = nI n := by rfl) (h : n < 2 ^ 31 := by omega) : x.toNatClampNeg = n := by
  subst hx
  exact nI_clamp h
theorem pk_tn {n : Nat} (h : n < 2 ^ 32) : (nI n).toBitVec.toNat = n := Nat.mod_eq_of_lt h
theorem pk_and (x : Int32) {m : Int32} (k : Nat) (hm : m.toBitVec.toNat = 2 ^ k - 1) : x &&& m = nI (x.toBitVec.toNat % 2 ^ k) := by
  apply Int32.toBitVec_inj.mp
  apply BitVec.eq_of_toNat_eq
  rw [Int32.toBitVec_and, BitVec.toNat_and, hm, Nat.and_two_pow_sub_one_eq_mod]
  show _ = (BitVec.ofNat 32 _).toNat
  rw [BitVec.toNat_ofNat]
  exact (Nat.mod_eq_of_lt (Nat.lt_of_le_of_lt (Nat.mod_le _ _) x.toBitVec.isLt)).symm
theorem pk_andN {n : Nat} (h : n < 2 ^ 32) {m : Int32} (k : Nat) (hm : m.toBitVec.toNat = 2 ^ k - 1) : nI n &&& m = nI (n % 2 ^ k) := by
  rw [pk_and _ k hm, pk_tn h]
/-- numbers on the tape -/
def tc_I (v : Fin 16) : Int32 := nI v.val
def tc_toV (n : Int32) : Fin 16 := ⟨n.toBitVec.toNat % 16, Nat.mod_lt _ (by decide)⟩
def tc_up (t : Nat → Fin 16) (c : Nat) (v : Fin 16) : Nat → Fin 16 := fun j => if j = c then v else t j
theorem tc_up_s (t : Nat → Fin 16) (c : Nat) (v : Fin 16) : tc_up t c v c = v := if_pos rfl
theorem tc_up_n (t : Nat → Fin 16) {c j : Nat} (v : Fin 16) (h : j ≠ c) : tc_up t c v j = t j := if_neg h
theorem tc_I_lt (v : Fin 16) : v.val < 16 := v.isLt
theorem tc_I0 (v : Fin 16) : tc_I v = 0 ↔ v = 0 := by revert v; decide
theorem tc_I_toV (v : Fin 16) : tc_toV (tc_I v) = v := by revert v; decide
theorem tc_I_1 : tc_I 1 = 1 := by decide
theorem tc_toV_nI (n : Nat) : (tc_toV (nI n)).val = n % 16 := by
  show (nI n).toBitVec.toNat % 16 = n % 16
  show (BitVec.ofNat 32 n).toNat % 16 = n % 16
  rw [BitVec.toNat_ofNat]
  omega
theorem tc_and15 (x : Int32) : x &&& 15 = tc_I (tc_toV x) := pk_and x 4 (by decide)
theorem tc_toV_add (x y : Int32) : tc_toV (x + y) = tc_toV x + tc_toV y := by
  apply Fin.eq_of_val_eq
  show (x + y).toBitVec.toNat % 16 = (x.toBitVec.toNat % 16 + y.toBitVec.toNat % 16) % 16
  rw [Int32.toBitVec_add, BitVec.toNat_add]
  omega
theorem tc_toV_mul (x y : Int32) : tc_toV (x * y) = tc_toV x * tc_toV y := by
  apply Fin.eq_of_val_eq
  show (x * y).toBitVec.toNat % 16 = ((x.toBitVec.toNat % 16) * (y.toBitVec.toNat % 16)) % 16
  rw [Int32.toBitVec_mul, BitVec.toNat_mul]
  generalize x.toBitVec.toNat = a
  generalize y.toBitVec.toNat = b
  rw [← Nat.mul_mod]
  generalize a * b = c
  omega
theorem tc_toV_sub (x y : Int32) : tc_toV (x - y) = tc_toV x - tc_toV y := by
  have h : tc_toV (x - y) + tc_toV y = tc_toV x := by
    rw [← tc_toV_add]
    exact congrArg tc_toV (by grind)
  rw [← h]
  generalize tc_toV (x - y) = a
  generalize tc_toV y = b
  revert a b
  decide
theorem tc_addI (v : Fin 16) (n : Int32) (m : Fin 16) : (tc_I v + n * tc_I m) &&& 15 = tc_I (v + tc_toV n * m) := by
  rw [tc_and15, tc_toV_add, tc_toV_mul, tc_I_toV, tc_I_toV]
theorem tc_updI (t : Nat → Fin 16) (c : Nat) (v : Fin 16) : upd (fun j => tc_I (t j)) c (tc_I v) = fun j => tc_I (tc_up t c v j) := by
  funext j
  unfold upd tc_up
  by_cases h : j = c
  · rw [if_pos h, if_pos h]
  · rw [if_neg h, if_neg h]
theorem tc_nIu (x : Int32) : nI x.toBitVec.toNat = x := by
  apply Int32.toBitVec_inj.mp
  show BitVec.ofNat 32 x.toBitVec.toNat = x.toBitVec
  apply BitVec.eq_of_toNat_eq
  rw [BitVec.toNat_ofNat]
  exact Nat.mod_eq_of_lt x.toBitVec.isLt
/-- tokens as they are put: what, at which cell, how much; and the code that comes of them -/
abbrev tc_Tok : Type := Int32 × Nat × Int32
abbrev tc_Raw : Type := Int32 × Int32
def tc_mv (p c : Nat) : List tc_Raw := if c = p then [] else [(0, nI c - nI p)]
def tc_em : Nat → List tc_Tok → List tc_Raw
  | _, [] => []
  | p, k :: T => tc_mv p k.2.1 ++ (k.1, k.2.2) :: tc_em k.2.1 T
def tc_pl : Nat → List tc_Tok → Nat
  | p, [] => p
  | _, k :: T => tc_pl k.2.1 T
theorem tc_pl_app : ∀ (A : List tc_Tok) (p : Nat) (B : List tc_Tok), tc_pl p (A ++ B) = tc_pl (tc_pl p A) B
  | [], _, _ => rfl
  | k :: A, _, B => tc_pl_app A k.2.1 B
theorem tc_em_app : ∀ (A : List tc_Tok) (p : Nat) (B : List tc_Tok), tc_em p (A ++ B) = tc_em p A ++ tc_em (tc_pl p A) B
  | [], _, _ => rfl
  | k :: A, p, B => by
    show tc_mv p k.2.1 ++ (k.1, k.2.2) :: tc_em k.2.1 (A ++ B) = (tc_mv p k.2.1 ++ (k.1, k.2.2) :: tc_em k.2.1 A) ++ tc_em (tc_pl k.2.1 A) B
    rw [tc_em_app A k.2.1 B, List.append_assoc]
    rfl
theorem tc_mv_len (p c : Nat) : (tc_mv p c).length ≤ 1 := by
  unfold tc_mv
  split
  · exact Nat.zero_le _
  · exact Nat.le_refl _
theorem tc_em_len : ∀ (A : List tc_Tok) (p : Nat), (tc_em p A).length ≤ 2 * A.length
  | [], _ => Nat.le_refl _
  | k :: A, p => by
    show (tc_mv p k.2.1 ++ (k.1, k.2.2) :: tc_em k.2.1 A).length ≤ 2 * (A.length + 1)
    have h1 := tc_mv_len p k.2.1
    have h2 := tc_em_len A k.2.1
    rw [List.length_append, List.length_cons]
    omega
def tc_hold (ops args : Nat → Int32) : Nat → List tc_Raw → Prop
  | _, [] => True
  | o, x :: L => ops o = x.1 ∧ args o = x.2 ∧ tc_hold ops args (o + 1) L
theorem tc_hold_app {ops args : Nat → Int32} : ∀ (A : List tc_Raw) (o : Nat) (B : List tc_Raw), tc_hold ops args o (A ++ B) ↔ (tc_hold ops args o A ∧ tc_hold ops args (o + A.length) B)
  | [], o, B => ⟨fun h => ⟨trivial, h⟩, fun h => h.2⟩
  | x :: A, o, B => by
    show (ops o = x.1 ∧ args o = x.2 ∧ tc_hold ops args (o + 1) (A ++ B)) ↔ ((ops o = x.1 ∧ args o = x.2 ∧ tc_hold ops args (o + 1) A) ∧ tc_hold ops args (o + (A.length + 1)) B)
    rw [tc_hold_app A (o + 1) B, show o + 1 + A.length = o + (A.length + 1) from by omega]
    exact ⟨fun ⟨a, b, c, d⟩ => ⟨⟨a, b, c⟩, d⟩, fun ⟨⟨a, b, c⟩, d⟩ => ⟨a, b, c, d⟩⟩
theorem tc_hold_congr {ops args ops' args' : Nat → Int32} : ∀ (A : List tc_Raw) (o : Nat), (∀ j, o ≤ j → j < o + A.length → ops' j = ops j ∧ args' j = args j) → tc_hold ops args o A → tc_hold ops' args' o A
  | [], _, _, _ => trivial
  | x :: A, o, h, ⟨a, b, c⟩ => by
    have h0 := h o (Nat.le_refl _) (by rw [List.length_cons]; omega)
    exact ⟨h0.1.trans a, h0.2.trans b, tc_hold_congr A (o + 1) (fun j h1 h2 => h j (by omega) (by rw [List.length_cons]; omega)) c⟩
/-- what was said: the kept numbers, and how many -/
abbrev tc_Out : Type := (Nat → Int32) × Nat
def tc_say (w : tc_Out) (x : Int32) : tc_Out := (if w.2 < 40 then upd w.1 w.2 x else w.1, w.2 + 1)
/-- the machine's rules, for whatever is asked of it: budget, place in the code, head, factor, tape, what was said -/
def tc_Mach (ops args : Nat → Int32) (len : Nat) (W : Nat → Nat → Nat → Fin 16 → (Nat → Fin 16) → tc_Out → Prop) : Prop :=
  (∀ m i h tm t w, W m i h tm t w → W (m + 1) i h tm t w) ∧
  (∀ m i h h' tm t w, i < len → ops i = 0 → (nI h + args i) &&& 127 = nI h' → W m (i + 1) h' tm t w → W (m + 1) i h tm t w) ∧
  (∀ m i h tm t w, i < len → ops i = 1 → h < 128 → W m (i + 1) h tm (tc_up t h (t h + tc_toV (args i) * tm)) w → W (m + 1) i h tm t w) ∧
  (∀ m i h tm t w e, i < len → ops i = 2 → h < 128 → args i = nI e → W m (if t h = 0 then e + 1 else i + 1) h tm t w → W (m + 1) i h tm t w) ∧
  (∀ m i h tm t w e, i < len → ops i = 3 → h < 128 → args i = nI e → W m (if t h = 0 then i + 1 else e + 1) h tm t w → W (m + 1) i h tm t w) ∧
  (∀ m i h tm t w, i < len → ops i = 4 → h < 128 → W m (i + 1) h tm t (tc_say w (tc_I (t h))) → W (m + 1) i h tm t w) ∧
  (∀ m i h tm t w, i < len → ops i = 5 → h < 128 → W m (i + 1) h (t h) t w → W (m + 1) i h tm t w) ∧
  (∀ m i h tm t w, i < len → ops i = 6 → h < 128 → W m (i + 1) h 1 t w → W (m + 1) i h tm t w)
