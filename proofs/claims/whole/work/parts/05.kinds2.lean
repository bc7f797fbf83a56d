/-! part 05: quotient, fetch, store -/
def tc_quot (lv : Bool) (x y z : Nat) : tc_Fr :=
  tc_seq (tc_addTo lv y 7) (tc_seq (tc_addTo lv z 8) (tc_seq (tc_addTo lv 8 9) (tc_seq
    (tc_loop false 7 (tc_seq (tc_tok (1, 7, -1)) (tc_seq (tc_tok (1, 9, -1)) (tc_seq (tc_tok (1, 10, 1)) (tc_seq (tc_addTo lv 9 11)
      (tc_seq (tc_loop false 11 (tc_seq (tc_tok (1, 10, -1)) (tc_clear lv 11)))
        (tc_loop false 10 (tc_seq (tc_tok (1, 10, -1)) (tc_seq (tc_tok (1, 12, 1)) (tc_addTo lv 8 9)))))))))) 
    (tc_seq (tc_clear lv 8) (tc_seq (tc_clear lv 9) (tc_seq (tc_clear lv x) (tc_pour lv 12 x 1)))))))
def tc_qc (z : Fin 16) (i : Nat) : Fin 16 := z - tc_f (i % z.val)
def tc_qr (z : Fin 16) (i : Nat) : Fin 16 := tc_f (i / z.val)
theorem tc_q_step : ∀ (z : Fin 16) (i : Fin 15), (tc_qc z i.val + 15 = 0 → tc_qc z (i.val + 1) = z ∧ tc_qr z (i.val + 1) = tc_qr z i.val + 1) ∧ (tc_qc z i.val + 15 ≠ 0 → tc_qc z (i.val + 1) = tc_qc z i.val + 15 ∧ tc_qr z (i.val + 1) = tc_qr z i.val) := by decide
theorem tc_q_0 : ∀ z : Fin 16, tc_qc z 0 = z ∧ tc_qr z 0 = 0 := by decide
theorem tc_q_end : ∀ y z : Fin 16, tc_qr z y.val = y / z := by decide
theorem tc_sp_quot {lv : Bool} {x y z p : Nat} {t : Nat → Fin 16} {w : tc_Out} (C : tc_Cl t) (hx : x < 6) (hy : y < 6) (hz : z < 6) : tc_Sp (tc_quot lv x y z) 20000 0 p t w 0 (tc_up t x (t y / t z)) w := by
  have z6 := C.1 6 (by omega) (by omega)
  have z7 := C.1 7 (by omega) (by omega)
  have z8 := C.1 8 (by omega) (by omega)
  have z9 := C.1 9 (by omega) (by omega)
  have z10 := C.1 10 (by omega) (by omega)
  have z11 := C.1 11 (by omega) (by omega)
  have z12 := C.1 12 (by omega) (by omega)
  have hv := (t y).isLt
  obtain ⟨q01, q02⟩ := tc_q_0 (t z)
  have qe := tc_q_end (t y) (t z)
  refine tc_sp_le (tc_sp_cast (tc_sp_seq (tc_sp_addTo (by omega) (by omega) (by omega) (by omega) (by omega) z6) (tc_sp_seq (tc_sp_addTo (by omega) (by omega) (by omega) (by omega) (by omega) ?_) (tc_sp_seq (tc_sp_addTo (by omega) (by omega) (by omega) (by omega) (by omega) ?_) (tc_sp_seq (n1 := 15000) (t1 := tc_up (tc_up (tc_up t 8 (t z)) 9 (tc_qc (t z) (t y).val)) 12 (tc_qr (t z) (t y).val)) (b1 := 0) (w1 := w) ?_ (tc_sp_seq (tc_sp_clear (by omega)) (tc_sp_seq (tc_sp_clear (by omega)) (tc_sp_seq (tc_sp_clear (by omega)) (tc_sp_pour (by omega) (by omega) (by omega))))))))) ?_) (by omega)
  · simp only [tc_up]
    grind
  · simp only [tc_up]
    grind
  · refine tc_sp_for' (nb := 2 + (2 + (2 + (230 + (100 + 300))))) (t y).val (fun _ => 0) (fun j => tc_up (tc_up (tc_up (tc_up t 8 (t z)) 9 (tc_qc (t z) ((t y).val - j))) 12 (tc_qr (t z) ((t y).val - j))) 7 (tc_f j)) (fun _ => w) (by omega) ?_ ?_ ?_ rfl ?_ rfl rfl ?_ rfl (by omega)
    · simp only [tc_up, tc_f0]
      grind
    · intro j hj
      have := tc_fn (j := j) (by omega)
      simp only [tc_up]
      grind
    · intro j hj
      obtain ⟨s1, s2⟩ := tc_q_step (t z) ⟨(t y).val - (j + 1), by omega⟩
      dsimp only at s1 s2
      rw [show (t y).val - (j + 1) + 1 = (t y).val - j from by omega] at s1 s2
      show tc_Sp _ _ _ _ (tc_up (tc_up (tc_up (tc_up t 8 (t z)) 9 (tc_qc (t z) ((t y).val - (j + 1)))) 12 (tc_qr (t z) ((t y).val - (j + 1)))) 7 (tc_f (j + 1))) w 0 (tc_up (tc_up (tc_up (tc_up t 8 (t z)) 9 (tc_qc (t z) ((t y).val - j))) 12 (tc_qr (t z) ((t y).val - j))) 7 (tc_f j)) w
      generalize tc_qc (t z) ((t y).val - (j + 1)) = qc at *
      generalize tc_qr (t z) ((t y).val - (j + 1)) = qr at *
      generalize tc_qc (t z) ((t y).val - j) = qc' at *
      generalize tc_qr (t z) ((t y).val - j) = qr' at *
      refine tc_sp_seq (tc_sp_add (by omega)) (tc_sp_seq (tc_sp_add (by omega)) (tc_sp_seq (tc_sp_add (by omega)) (tc_sp_seq (tc_sp_addTo (by omega) (by omega) (by omega) (by omega) (by omega) ?_)
        (tc_sp_seq (t1 := tc_up (tc_up (tc_up (tc_up (tc_up t 8 (t z)) 9 (qc + 15)) 12 qr) 7 (tc_f j)) 10 (if qc + 15 = 0 then 1 else 0)) (b1 := 0) (w1 := w) (tc_sp_if (nb := 2 + 64) (by omega) (fun h => tc_sp_cast (tc_sp_seq (tc_sp_add (by omega)) (tc_sp_clear (by omega))) ?_) ?_ ?_ (by omega))
          (tc_sp_if (nb := 2 + (2 + 230)) (by omega) (fun h => tc_sp_cast (tc_sp_seq (tc_sp_add (by omega)) (tc_sp_seq (tc_sp_add (by omega)) (tc_sp_addTo (by omega) (by omega) (by omega) (by omega) (by omega) ?_))) ?_) ?_ ?_ (by omega))))))
      · simp only [tc_up]
        grind
      · simp only [tc_up, Nat.zero_add, tc_m1, tc_p1] at h
        funext i
        simp only [tc_up, tc_fs, tc_m1, tc_p1, Nat.zero_add]
        grind
      · intro _
        simp only [tc_up]
        grind
      · intro h
        refine ⟨?_, rfl⟩
        simp only [tc_up, Nat.zero_add, tc_m1, tc_p1] at h
        funext i
        simp only [tc_up, tc_fs, tc_m1, tc_p1, Nat.zero_add]
        grind
      · simp only [tc_up]
        grind
      · simp only [tc_up, Nat.zero_add, tc_m1, tc_p1] at h
        have hq : qc + 15 = 0 := by grind
        obtain ⟨e1, e2⟩ := s1 hq
        subst e1 e2
        funext i
        simp only [tc_up, tc_m1, tc_p1, Nat.zero_add]
        grind
      · intro _
        simp only [tc_up]
        grind
      · intro h
        refine ⟨?_, rfl⟩
        simp only [tc_up, Nat.zero_add, tc_m1, tc_p1] at h
        have hq : qc + 15 ≠ 0 := by grind
        obtain ⟨e1, e2⟩ := s2 hq
        subst e1 e2
        funext i
        simp only [tc_up, Nat.zero_add]
        grind
    · funext i
      simp only [tc_up, tc_fv, Nat.zero_add, Nat.sub_self, q01, q02]
      grind
    · funext i
      simp only [tc_up, tc_f0, Nat.zero_add, Nat.sub_zero]
      grind
  · funext i
    simp only [tc_up, tc_p1, Nat.zero_add, qe]
    grind
def tc_walkOut (lv : Bool) : tc_Fr := tc_loop false 18 (tc_seq (tc_tok (1, 18, -1)) (tc_seq (tc_pour lv 18 22 1) (tc_seq (tc_pour lv 19 23 1) (tc_seq (tc_tok (1, 24, 1)) (tc_tok (0, 18, 4))))))
def tc_walkBack (lv : Bool) : tc_Fr := tc_loop false 20 (tc_seq (tc_tok (1, 20, -1)) (tc_seq (tc_pour lv 19 15 1) (tc_tok (0, 20, -4))))
def tc_lift (lv : Bool) : tc_Fr := tc_seq (tc_pour2 lv 17 18 19) (tc_pour lv 18 17 1)
def tc_om (t : Nat → Fin 16) (v : Fin 16) (k j : Nat) : Nat → Fin 16 := fun i => if i = 18 + 4 * j then tc_f k else if i = 19 + 4 * j then v else if 20 < i ∧ i ≤ 20 + 4 * j ∧ i % 4 = 0 then 1 else t i
def tc_bk (t : Nat → Fin 16) (v : Fin 16) (j : Nat) : Nat → Fin 16 := fun i => if i = 19 + 4 * j then v else if 20 < i ∧ i ≤ 20 + 4 * j ∧ i % 4 = 0 then 1 else t i
theorem tc_sp_walkOut {lv : Bool} {p : Nat} {t : Nat → Fin 16} {w : tc_Out} {v : Fin 16} {I : Nat} (C : tc_Cl t) (hI : I < 16) : tc_Sp (tc_walkOut lv) 5000 0 p (tc_om t v I 0) w (4 * I) (tc_om t v 0 I) w := by
  refine tc_sp_for' (nb := 2 + (100 + (100 + (2 + 2)))) I (fun k => 4 * (I - k)) (fun k => tc_om t v k (I - k)) (fun _ => w) (by omega) ?_ ?_ ?_ ?_ ?_ rfl ?_ ?_ rfl (by omega)
  · simp only [tc_om, tc_f0]
    grind
  · intro j hj
    have := tc_fn (j := j) (by omega)
    simp only [tc_om]
    grind
  · intro j hj
    obtain ⟨q, hq⟩ : ∃ q, q = I - (j + 1) := ⟨_, rfl⟩
    have hq' : I - j = q + 1 := by omega
    show tc_Sp _ _ (4 * (I - (j + 1))) _ (tc_om t v (j + 1) (I - (j + 1))) w (4 * (I - j)) (tc_om t v j (I - j)) w
    rw [← hq, hq']
    have c1 := C.2 (18 + 4 * q) (by omega) (by omega) (by omega)
    have c2 := C.2 (19 + 4 * q) (by omega) (by omega) (by omega)
    have c3 := C.2 (22 + 4 * q) (by omega) (by omega) (by omega)
    have c4 := C.2 (23 + 4 * q) (by omega) (by omega) (by omega)
    have c5 := C.2 (24 + 4 * q) (by omega) (by omega) (by omega)
    refine tc_sp_cast (tc_sp_seq (tc_sp_add (by omega)) (tc_sp_seq (tc_sp_pour (by omega) (by omega) (by omega)) (tc_sp_seq (tc_sp_pour (by omega) (by omega) (by omega)) (tc_sp_seq (tc_sp_add (by omega)) (tc_sp_walk (b' := 4 * (q + 1)) (by omega) ?_))))) ?_
    · rw [show (4 : Int32) = nI 4 from rfl, nI_add, pk_andN (by omega) 7 (by decide), Nat.mod_eq_of_lt (by omega)]
      exact congrArg nI (by omega)
    · rw [show 4 * q + 18 = 18 + 4 * q from by omega, show 4 * q + 19 = 19 + 4 * q from by omega, show 4 * q + 22 = 22 + 4 * q from by omega, show 4 * q + 23 = 23 + 4 * q from by omega, show 4 * q + 24 = 24 + 4 * q from by omega]
      funext i
      simp only [tc_up, tc_om, tc_fs, tc_m1, tc_p1]
      grind
  · omega
  · rw [Nat.sub_self]
  · omega
  · rw [Nat.sub_zero]
theorem tc_sp_walkBack {lv : Bool} {p : Nat} {t : Nat → Fin 16} {w : tc_Out} {v : Fin 16} {I : Nat} (C : tc_Cl t) (hI : I < 16) : tc_Sp (tc_walkBack lv) 5000 (4 * I) p (tc_bk t v I) w 0 (tc_up t 19 v) w := by
  have c0 := C.2 20 (by omega) (by omega) (by omega)
  refine tc_sp_for' (nb := 2 + (100 + 2)) I (fun k => 4 * k) (fun k => tc_bk t v k) (fun _ => w) (by omega) ?_ ?_ ?_ rfl rfl rfl rfl ?_ rfl (by omega)
  · simp only [tc_bk]
    grind
  · intro j hj
    simp only [tc_bk]
    grind
  · intro j hj
    have c1 := C.2 (19 + 4 * j) (by omega) (by omega) (by omega)
    have c2 := C.2 (23 + 4 * j) (by omega) (by omega) (by omega)
    have c3 := C.2 (24 + 4 * j) (by omega) (by omega) (by omega)
    refine tc_sp_cast (tc_sp_seq (tc_sp_add (by omega)) (tc_sp_seq (tc_sp_pour (by omega) (by omega) (by omega)) (tc_sp_walk (b' := 4 * j) (by omega) ?_))) ?_
    · rw [show nI (4 * (j + 1) + 20) + (-4) = nI (4 * j + 20) from by rw [show 4 * (j + 1) + 20 = 4 * j + 20 + 4 from by omega, ← nI_add (4 * j + 20) 4, show nI 4 = (4 : Int32) from rfl]; grind, pk_andN (by omega) 7 (by decide), Nat.mod_eq_of_lt (by omega)]
    · rw [show 4 * (j + 1) + 19 = 23 + 4 * j from by omega, show 4 * (j + 1) + 15 = 19 + 4 * j from by omega, show 4 * (j + 1) + 20 = 24 + 4 * j from by omega]
      funext i
      simp only [tc_up, tc_bk, tc_m1, tc_p1]
      grind
  · funext i
    simp only [tc_up, tc_bk]
    grind
def tc_fetch (lv : Bool) (x y : Nat) : tc_Fr := tc_seq (tc_addTo lv y 18) (tc_seq (tc_walkOut lv) (tc_seq (tc_lift lv) (tc_seq (tc_walkBack lv) (tc_seq (tc_clear lv x) (tc_pour lv 19 x 1)))))
def tc_store (lv : Bool) (x y : Nat) : tc_Fr := tc_seq (tc_addTo lv x 18) (tc_seq (tc_addTo lv y 19) (tc_seq (tc_walkOut lv) (tc_seq (tc_clear lv 17) (tc_seq (tc_pour lv 19 17 1) (tc_walkBack lv)))))
theorem tc_cl_el {t : Nat → Fin 16} (C : tc_Cl t) (i : Nat) (v : Fin 16) : tc_Cl (tc_up t (17 + 4 * i) v) :=
  ⟨fun j h1 h2 => (tc_up_n t v (by omega)).trans (C.1 j h1 h2), fun j h1 h2 h3 => (tc_up_n t v (by omega)).trans (C.2 j h1 h2 h3)⟩
theorem tc_sp_fetch {lv : Bool} {x y p : Nat} {t : Nat → Fin 16} {w : tc_Out} (C : tc_Cl t) (hx : x < 6) (hy : y < 6) : tc_Sp (tc_fetch lv x y) 20000 0 p t w 0 (tc_up t x (t (17 + 4 * (t y).val))) w := by
  have z6 := C.1 6 (by omega) (by omega)
  have z18 := C.2 18 (by omega) (by omega) (by omega)
  have z19 := C.2 19 (by omega) (by omega) (by omega)
  have hv := (t y).isLt
  have e1 : tc_up t 18 (t 18 + t y) = tc_om t 0 (t y).val 0 := by
    funext i
    simp only [tc_up, tc_om, tc_fv]
    grind
  have y1 := tc_sp_addTo (lv := lv) (p := p) (w := w) (c := y) (d := 18) (t := t) (by omega) (by omega) (by omega) (by omega) (by omega) z6
  rw [e1] at y1
  generalize t y = vy at *
  generalize hI : vy.val = I at *
  have c1 := C.2 (18 + 4 * I) (by omega) (by omega) (by omega)
  have c2 := C.2 (19 + 4 * I) (by omega) (by omega) (by omega)
  refine tc_sp_le (tc_sp_cast (tc_sp_seq y1 (tc_sp_seq (tc_sp_walkOut C hv) (tc_sp_seq (t1 := tc_bk t (t (17 + 4 * I)) I) (n1 := 130 + 100) (b1 := 4 * I) (w1 := w) (tc_sp_cast (tc_sp_seq (tc_sp_pour2 (by omega) (by omega) (by omega) (by omega) (by omega) (by omega)) (tc_sp_pour (by omega) (by omega) (by omega))) ?_) (tc_sp_seq (tc_sp_walkBack C hv) (tc_sp_seq (tc_sp_clear (by omega)) (tc_sp_pour (by omega) (by omega) (by omega))))))) ?_) (by omega)
  · rw [show 4 * I + 17 = 17 + 4 * I from by omega, show 4 * I + 18 = 18 + 4 * I from by omega, show 4 * I + 19 = 19 + 4 * I from by omega]
    funext i
    simp only [tc_up, tc_om, tc_bk, tc_f0, tc_p1]
    grind
  · generalize t (17 + 4 * I) = e
    funext i
    simp only [tc_up, tc_p1, Nat.zero_add]
    grind
theorem tc_sp_store {lv : Bool} {x y p : Nat} {t : Nat → Fin 16} {w : tc_Out} (C : tc_Cl t) (hx : x < 6) (hy : y < 6) : tc_Sp (tc_store lv x y) 20000 0 p t w 0 (tc_up t (17 + 4 * (t x).val) (t y)) w := by
  have z6 := C.1 6 (by omega) (by omega)
  have z18 := C.2 18 (by omega) (by omega) (by omega)
  have z19 := C.2 19 (by omega) (by omega) (by omega)
  have hv := (t x).isLt
  have e1 : tc_up (tc_up t 18 (t 18 + t x)) 19 (tc_up t 18 (t 18 + t x) 19 + tc_up t 18 (t 18 + t x) y) = tc_om t (t y) (t x).val 0 := by
    funext i
    simp only [tc_up, tc_om, tc_fv]
    grind
  have y1 := tc_sp_addTo (lv := lv) (p := p) (w := w) (c := x) (d := 18) (t := t) (by omega) (by omega) (by omega) (by omega) (by omega) z6
  have y2 := tc_sp_addTo (lv := lv) (p := tc_pl p (tc_addTo lv x 18).1) (w := w) (c := y) (d := 19) (t := tc_up t 18 (t 18 + t x)) (by omega) (by omega) (by omega) (by omega) (by omega) (by simp only [tc_up]; grind)
  rw [e1] at y2
  have c1 := C.2 (18 + 4 * (t x).val) (by omega) (by omega) (by omega)
  have c2 := C.2 (19 + 4 * (t x).val) (by omega) (by omega) (by omega)
  have c3 := C.2 (20 + 4 * (t x).val) (by omega) (by omega) (by omega)
  refine tc_sp_le (tc_sp_cast (tc_sp_seq y1 (tc_sp_seq y2 (tc_sp_seq (tc_sp_walkOut C hv) (tc_sp_seq (tc_sp_clear (by omega)) (tc_sp_seq (t1 := tc_bk (tc_up t (17 + 4 * (t x).val) (t y)) 0 (t x).val) (n1 := 100) (b1 := 4 * (t x).val) (w1 := w) (tc_sp_cast (tc_sp_pour (by omega) (by omega) (by omega)) ?_) (tc_sp_walkBack (tc_cl_el C _ _) hv)))))) ?_) (by omega)
  · generalize (t x).val = I at *
    rw [show 4 * I + 17 = 17 + 4 * I from by omega, show 4 * I + 19 = 19 + 4 * I from by omega]
    funext i
    simp only [tc_up, tc_om, tc_bk, tc_f0, tc_p1]
    grind
  · generalize t y = e
    generalize (t x).val = I at *
    funext i
    simp only [tc_up]
    grind
