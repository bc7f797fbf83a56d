/-! part 12: the printed loops that match and that carry out (made by wip/whole/gen12.py) -/
theorem tc_fold10 {post : Int32 → Prop} {stm said lev ln pc wt nst : Int32} {ka fi se th we ne tape kept ops args tasks starts : Nat → Int32} (i : Nat) (hi : i ≤ 2048) : ∀ (L : List tc_Raw) (aw ow : Int32) (j fuel : Nat), tc_hold ops args j L → i = j + L.length → L.length < fuel → post (if tc_cf aw ow L = true then 1 else 0) → wX_canFold_10 post (nI i) stm said lev ln pc wt nst ka fi se th we ne tape kept ops args tasks starts fuel aw ow (nI j) := by
  intro L
  induction L with
  | nil =>
    intro aw ow j fuel _ hj hf hp
    have hj : i = j := hj
    subst hj
    obtain ⟨n, rfl⟩ : ∃ n, fuel = n + 1 := ⟨fuel - 1, by have : 0 < fuel := hf; omega⟩
    refine br_t (nI_le (Nat.le_refl _) (by omega)) ?_
    by_cases ha : aw = 0
    · by_cases ho : ow = -1
      · refine br_t ha (br_t ho ?_)
        rw [if_pos (tc_cf_e ha ho)] at hp
        exact hp
      · refine br_t ha (br_f ho ?_)
        rw [if_neg (by unfold tc_cf; simp [ho])] at hp
        exact hp
    · refine br_f ha ?_
      rw [if_neg (by unfold tc_cf; simp [ha])] at hp
      exact hp
  | cons x L ih =>
    intro aw ow j fuel hh hj hf hp
    rw [List.length_cons] at hj hf
    obtain ⟨n, rfl⟩ : ∃ n, fuel = n + 1 := ⟨fuel - 1, by omega⟩
    have cl : (nI j).toNatClampNeg = j := nI_clamp (by omega)
    have vin : vp_in (nI j) 2048 := vp_in_nI (by omega) (by omega)
    have e1 : ops (nI j).toNatClampNeg = x.1 := by rw [cl]; exact hh.1
    have e2 : args (nI j).toNatClampNeg = x.2 := by rw [cl]; exact hh.2.1
    have cfe : tc_cf aw ow (x :: L) = (if x.1 = 0 then tc_cf (aw + x.2) ow L else if x.1 = 1 then (if aw = 0 then tc_cf aw (ow + x.2) L else tc_cf aw ow L) else false) := rfl
    rw [cfe] at hp
    refine br_f (nI_ge (by omega) (by omega)) ⟨vin, ?_⟩
    by_cases x0 : x.1 = 0
    · rw [if_pos x0] at hp
      refine br_t (e1.trans x0) ⟨vin, nm_r (by rw [e2]) (nm_r (nI_1 j) (ih (aw + x.2) ow (j + 1) n hh.2.2 (by omega) (by omega) hp))⟩
    · rw [if_neg x0] at hp
      refine br_f (fun h => x0 (e1.symm.trans h)) ⟨vin, ?_⟩
      by_cases x1 : x.1 = 1
      · rw [if_pos x1] at hp
        refine br_t (e1.trans x1) ?_
        by_cases ha : aw = 0
        · rw [if_pos ha] at hp
          exact br_t ha ⟨vin, nm_r (by rw [e2]) (nm_r (nI_1 j) (ih aw (ow + x.2) (j + 1) n hh.2.2 (by omega) (by omega) hp))⟩
        · rw [if_neg ha] at hp
          exact br_f ha (nm_r (nI_1 j) (ih aw ow (j + 1) n hh.2.2 (by omega) (by omega) hp))
      · rw [if_neg x1] at hp
        exact br_f (fun h => x1 (e1.symm.trans h)) hp
def tc_Wm (post : SX → Prop) (stm said lev : Int32) (len : Nat) (pc wt nst : Int32) (ka fi se th we ne tape kept tasks : Nat → Int32) (d i : Nat) (ops args starts : Nat → Int32) : Prop :=
  ∀ fuel, len < fuel + i → wX_matchLoops_4 post stm said lev (nI len) pc wt nst fuel (nI d) (nI i) ka fi se th we ne tape kept ops args tasks starts
theorem tc_mr {post : SX → Prop} {stm said lev : Int32} {len : Nat} {pc wt nst : Int32} {ka fi se th we ne tape kept tasks : Nat → Int32} (hl : len ≤ 2048) : tc_MR lev len (tc_Wm post stm said lev len pc wt nst ka fi se th we ne tape kept tasks) := by
  refine ⟨?_, ?_, ?_⟩
  · intro d i ops args st hi h2 h3 hw fuel hf
    obtain ⟨n, rfl⟩ : ∃ n, fuel = n + 1 := ⟨fuel - 1, by omega⟩
    have cl : (nI i).toNatClampNeg = i := nI_clamp (by omega)
    have vin : vp_in (nI i) 2048 := vp_in_nI (by omega) (by omega)
    have e2 : ¬ ops (nI i).toNatClampNeg = 2 := by rw [cl]; exact h2
    have e3 : ¬ ops (nI i).toNatClampNeg = 3 := by rw [cl]; exact h3
    refine br_f (nI_ge hi (by omega)) ⟨vin, br_f e2 ?_⟩
    delta wX_matchLoops_41
    exact ⟨vin, br_f e3 (nm_r (nI_1 i) (hw n (by omega)))⟩
  · intro d i ops args st hi h2 hd hw fuel hf
    obtain ⟨n, rfl⟩ : ∃ n, fuel = n + 1 := ⟨fuel - 1, by omega⟩
    have cl : (nI i).toNatClampNeg = i := nI_clamp (by omega)
    have cld : (nI d).toNatClampNeg = d := nI_clamp (by omega)
    have vin : vp_in (nI i) 2048 := vp_in_nI (by omega) (by omega)
    have e2 : ops (nI i).toNatClampNeg = 2 := by rw [cl]; exact h2
    exact br_f (nI_ge hi (by omega)) ⟨vin, br_t e2 (br_f (nI_ge (b := 16) hd (by decide)) ⟨vp_in_nI hd (by omega), nm_r (by rw [cld]) (nm_r (nI_1 d) (nm_r (nI_1 i) (hw n (by omega))))⟩)⟩
  · intro d i ops args st s L hi h3 hd hs hh he hw fuel hf
    obtain ⟨n, rfl⟩ : ∃ n, fuel = n + 1 := ⟨fuel - 1, by omega⟩
    have cl : (nI i).toNatClampNeg = i := nI_clamp (by omega)
    have cls : (nI s).toNatClampNeg = s := nI_clamp (by omega)
    have cld : (nI d).toNatClampNeg = d := nI_clamp (by omega)
    have vin : vp_in (nI i) 2048 := vp_in_nI (by omega) (by omega)
    have vis : vp_in (nI s) 2048 := vp_in_nI (by omega) (by omega)
    have e3 : ops (nI i).toNatClampNeg = 3 := by rw [cl]; exact h3
    have e2 : ¬ ops (nI i).toNatClampNeg = 2 := by rw [e3]; decide
    refine br_f (nI_ge hi (by omega)) ⟨vin, br_f e2 ?_⟩
    delta wX_matchLoops_41
    refine ⟨vin, br_t e3 (br_f (nI_ge (a := 0) (by omega) (by omega)) (nm_r (pk_m1 d) ⟨vp_in_nI hd (by omega), nm_r (e' := nI s) (by rw [cld]; exact hs) ⟨vis, nm_r (e' := upd args s (nI i)) (by rw [cls]) ⟨vin, nm_r (e' := upd (upd args s (nI i)) i (nI s)) (by rw [cl]) ?_⟩⟩⟩))⟩
    by_cases hlev : lev = 1
    · refine br_t hlev ?_
      delta wpX_canFold
      refine nm_r (nI_1 s) ⟨L.length + 1, ?_⟩
      have hh' : tc_hold ops (upd (upd args s (nI i)) i (nI s)) (s + 1) L := tc_hold_congr _ _ (fun j j1 j2 => ⟨rfl, by rw [pk_un (by omega), pk_un (by omega)]⟩) hh
      refine tc_fold10 i (by omega) L 0 0 (s + 1) _ hh' he (by omega) ?_
      by_cases hc : tc_cf 0 0 L = true
      · rw [if_pos ⟨hlev, hc⟩] at hw
        rw [if_pos hc]
        exact br_f (by decide) ⟨vis, nm_r (e' := upd ops s 5) (by rw [cls]) ⟨vin, nm_r (e' := upd (upd ops s 5) i 6) (by rw [cl]) (nm_r (nI_1 i) (hw n (by omega)))⟩⟩
      · rw [if_neg (fun h => hc h.2)] at hw
        rw [if_neg hc]
        exact br_t rfl (nm_r (nI_1 i) (hw n (by omega)))
    · rw [if_neg (fun h => hlev h.1)] at hw
      exact br_f hlev (nm_r (nI_1 i) (hw n (by omega)))
theorem tc_wm_end {post : SX → Prop} {stm said lev : Int32} {len : Nat} {pc wt nst : Int32} {ka fi se th we ne tape kept tasks : Nat → Int32} {d : Nat} {ops args starts : Nat → Int32} (hl : len ≤ 2048) (h : post (stm, said, lev, nI len, pc, wt, nst, ka, fi, se, th, we, ne, tape, kept, ops, args, tasks, starts)) : tc_Wm post stm said lev len pc wt nst ka fi se th we ne tape kept tasks d len ops args starts := by
  intro fuel hf
  obtain ⟨n, rfl⟩ : ∃ n, fuel = n + 1 := ⟨fuel - 1, by omega⟩
  exact br_t (nI_le (Nat.le_refl _) (by omega)) h
def tc_Wc (post : SX → Prop) (stm lev : Int32) (len : Nat) (pc wt nst : Int32) (ka fi se th we ne ops args tasks starts : Nat → Int32) (m i h : Nat) (tm : Fin 16) (t : Nat → Fin 16) (w : tc_Out) : Prop :=
  ∀ step, step + m ≤ 1000000000 → w.2 ≤ step → ∃ fuel, wX_carryOut_9 post fuel (nI h) (tc_I tm) (nI i) (nI step) stm (nI w.2) lev (nI len) pc wt nst ka fi se th we ne (fun j => tc_I (t j)) w.1 ops args tasks starts
theorem tc_c_move {post : SX → Prop} {stm lev : Int32} {len : Nat} {pc wt nst : Int32} {ka fi se th we ne ops args tasks starts : Nat → Int32} (hl : len ≤ 2048) (m i h h' : Nat) (tm : Fin 16) (t : Nat → Fin 16) (w : tc_Out) (hi : i < len) (ho : ops i = 0) (hh : (nI h + args i) &&& 127 = nI h') (hw : tc_Wc post stm lev len pc wt nst ka fi se th we ne ops args tasks starts m (i + 1) h' tm t w) : tc_Wc post stm lev len pc wt nst ka fi se th we ne ops args tasks starts (m + 1) i h tm t w := by
  intro step h1 h2
  obtain ⟨fuel, hf⟩ := hw (step + 1) (by omega) (by first | omega | exact Nat.succ_le_succ h2)
  refine ⟨fuel + 1, ?_⟩
  have cl : (nI i).toNatClampNeg = i := nI_clamp (by omega)
  have vin : vp_in (nI i) 2048 := vp_in_nI (by omega) (by omega)
  exact br_f (nI_ge (b := 1000000000) (by omega) (by decide)) (br_f (nI_pos (by omega)) (br_f (nI_ge hi (by omega)) ⟨vin, nm_r (e' := args i) (by rw [cl]) ⟨vin, nm_r (e' := 0) (by rw [cl]; exact ho) (br_f (by decide) (br_f (by decide) (br_t rfl (nm_r hh (nm_r (nI_1 i) (nm_r (nI_1 step) hf))))))⟩⟩))
theorem tc_c_add {post : SX → Prop} {stm lev : Int32} {len : Nat} {pc wt nst : Int32} {ka fi se th we ne ops args tasks starts : Nat → Int32} (hl : len ≤ 2048) (m i h : Nat) (tm : Fin 16) (t : Nat → Fin 16) (w : tc_Out) (hi : i < len) (ho : ops i = 1) (hh : h < 128) (hw : tc_Wc post stm lev len pc wt nst ka fi se th we ne ops args tasks starts m (i + 1) h tm (tc_up t h (t h + tc_toV (args i) * tm)) w) : tc_Wc post stm lev len pc wt nst ka fi se th we ne ops args tasks starts (m + 1) i h tm t w := by
  intro step h1 h2
  obtain ⟨fuel, hf⟩ := hw (step + 1) (by omega) (by first | omega | exact Nat.succ_le_succ h2)
  refine ⟨fuel + 1, ?_⟩
  have cl : (nI i).toNatClampNeg = i := nI_clamp (by omega)
  have vin : vp_in (nI i) 2048 := vp_in_nI (by omega) (by omega)
  have clh : (nI h).toNatClampNeg = h := nI_clamp (by omega)
  have vh : vp_in (nI h) 128 := vp_in_nI hh (by omega)
  refine br_f (nI_ge (b := 1000000000) (by omega) (by decide)) (br_f (nI_pos (by omega)) (br_f (nI_ge hi (by omega)) ⟨vin, nm_r (e' := args i) (by rw [cl]) ⟨vin, nm_r (e' := 1) (by rw [cl]; exact ho) (br_f (by decide) (br_f (by decide) (br_f (by decide) (br_t rfl (⟨vh, vh, nm_r (e' := fun j => tc_I (tc_up t h (t h + tc_toV (args i) * tm) j)) ?_ (nm_r (nI_1 i) (nm_r (nI_1 step) hf))⟩)))))⟩⟩))
  rw [clh, tc_addI, tc_updI]
theorem tc_c_open {post : SX → Prop} {stm lev : Int32} {len : Nat} {pc wt nst : Int32} {ka fi se th we ne ops args tasks starts : Nat → Int32} (hl : len ≤ 2048) (m i h : Nat) (tm : Fin 16) (t : Nat → Fin 16) (w : tc_Out) (e : Nat) (hi : i < len) (ho : ops i = 2) (hh : h < 128) (ha : args i = nI e) (hw : tc_Wc post stm lev len pc wt nst ka fi se th we ne ops args tasks starts m (if t h = 0 then e + 1 else i + 1) h tm t w) : tc_Wc post stm lev len pc wt nst ka fi se th we ne ops args tasks starts (m + 1) i h tm t w := by
  intro step h1 h2
  obtain ⟨fuel, hf⟩ := hw (step + 1) (by omega) (by first | omega | exact Nat.succ_le_succ h2)
  refine ⟨fuel + 1, ?_⟩
  have cl : (nI i).toNatClampNeg = i := nI_clamp (by omega)
  have vin : vp_in (nI i) 2048 := vp_in_nI (by omega) (by omega)
  have clh : (nI h).toNatClampNeg = h := nI_clamp (by omega)
  have vh : vp_in (nI h) 128 := vp_in_nI hh (by omega)
  refine br_f (nI_ge (b := 1000000000) (by omega) (by decide)) (br_f (nI_pos (by omega)) (br_f (nI_ge hi (by omega)) ⟨vin, nm_r (e' := nI e) (by rw [cl]; exact ha) ⟨vin, nm_r (e' := 2) (by rw [cl]; exact ho) (br_f (by decide) (br_f (by decide) (br_f (by decide) (br_f (by decide) (br_t rfl (⟨vh, ?_⟩))))))⟩⟩))
  by_cases z : t h = 0
  · rw [if_pos z] at hf
    exact br_t (by show tc_I (t (nI h).toNatClampNeg) = 0; rw [clh, z]; rfl) (nm_r (nI_1 e) (nm_r (nI_1 step) hf))
  · rw [if_neg z] at hf
    exact br_f (by show ¬ tc_I (t (nI h).toNatClampNeg) = 0; rw [clh, tc_I0]; exact z) (nm_r (nI_1 i) (nm_r (nI_1 step) hf))
theorem tc_c_close {post : SX → Prop} {stm lev : Int32} {len : Nat} {pc wt nst : Int32} {ka fi se th we ne ops args tasks starts : Nat → Int32} (hl : len ≤ 2048) (m i h : Nat) (tm : Fin 16) (t : Nat → Fin 16) (w : tc_Out) (e : Nat) (hi : i < len) (ho : ops i = 3) (hh : h < 128) (ha : args i = nI e) (hw : tc_Wc post stm lev len pc wt nst ka fi se th we ne ops args tasks starts m (if t h = 0 then i + 1 else e + 1) h tm t w) : tc_Wc post stm lev len pc wt nst ka fi se th we ne ops args tasks starts (m + 1) i h tm t w := by
  intro step h1 h2
  obtain ⟨fuel, hf⟩ := hw (step + 1) (by omega) (by first | omega | exact Nat.succ_le_succ h2)
  refine ⟨fuel + 1, ?_⟩
  have cl : (nI i).toNatClampNeg = i := nI_clamp (by omega)
  have vin : vp_in (nI i) 2048 := vp_in_nI (by omega) (by omega)
  have clh : (nI h).toNatClampNeg = h := nI_clamp (by omega)
  have vh : vp_in (nI h) 128 := vp_in_nI hh (by omega)
  refine br_f (nI_ge (b := 1000000000) (by omega) (by decide)) (br_f (nI_pos (by omega)) (br_f (nI_ge hi (by omega)) ⟨vin, nm_r (e' := nI e) (by rw [cl]; exact ha) ⟨vin, nm_r (e' := 3) (by rw [cl]; exact ho) (br_f (by decide) (br_f (by decide) (br_f (by decide) (br_f (by decide) (br_f (by decide) (br_t rfl (⟨vh, ?_⟩)))))))⟩⟩))
  by_cases z : t h = 0
  · rw [if_pos z] at hf
    exact br_t (by show tc_I (t (nI h).toNatClampNeg) = 0; rw [clh, z]; rfl) (nm_r (nI_1 i) (nm_r (nI_1 step) hf))
  · rw [if_neg z] at hf
    exact br_f (by show ¬ tc_I (t (nI h).toNatClampNeg) = 0; rw [clh, tc_I0]; exact z) (nm_r (nI_1 e) (nm_r (nI_1 step) hf))
theorem tc_c_print {post : SX → Prop} {stm lev : Int32} {len : Nat} {pc wt nst : Int32} {ka fi se th we ne ops args tasks starts : Nat → Int32} (hl : len ≤ 2048) (m i h : Nat) (tm : Fin 16) (t : Nat → Fin 16) (w : tc_Out) (hi : i < len) (ho : ops i = 4) (hh : h < 128) (hw : tc_Wc post stm lev len pc wt nst ka fi se th we ne ops args tasks starts m (i + 1) h tm t (tc_say w (tc_I (t h)))) : tc_Wc post stm lev len pc wt nst ka fi se th we ne ops args tasks starts (m + 1) i h tm t w := by
  intro step h1 h2
  obtain ⟨fuel, hf⟩ := hw (step + 1) (by omega) (by first | omega | exact Nat.succ_le_succ h2)
  refine ⟨fuel + 1, ?_⟩
  have cl : (nI i).toNatClampNeg = i := nI_clamp (by omega)
  have vin : vp_in (nI i) 2048 := vp_in_nI (by omega) (by omega)
  have clh : (nI h).toNatClampNeg = h := nI_clamp (by omega)
  have vh : vp_in (nI h) 128 := vp_in_nI hh (by omega)
  have clw : (nI w.2).toNatClampNeg = w.2 := nI_clamp (by omega)
  refine br_f (nI_ge (b := 1000000000) (by omega) (by decide)) (br_f (nI_pos (by omega)) (br_f (nI_ge hi (by omega)) ⟨vin, nm_r (e' := args i) (by rw [cl]) ⟨vin, nm_r (e' := 4) (by rw [cl]; exact ho) (br_f (by decide) (br_f (by decide) (br_f (by decide) (br_f (by decide) (br_f (by decide) (br_f (by decide) (br_t rfl (⟨vh, ?_⟩))))))))⟩⟩))
  delta wpX_say
  by_cases z : w.2 < 40
  · rw [show tc_say w (tc_I (t h)) = (upd w.1 w.2 (tc_I (t h)), w.2 + 1) from by unfold tc_say; rw [if_pos z]] at hf
    exact br_f (nI_ge (b := 40) z (by decide)) ⟨vp_in_nI z (by omega), nm_r (e' := upd w.1 w.2 (tc_I (t h))) (by rw [clh, clw]) (nm_r (nI_1 w.2) (nm_r (nI_1 i) (nm_r (nI_1 step) hf)))⟩
  · rw [show tc_say w (tc_I (t h)) = (w.1, w.2 + 1) from by unfold tc_say; rw [if_neg z]] at hf
    exact br_t (nI_le (a := 40) (by omega) (by omega)) (nm_r (nI_1 w.2) (nm_r (nI_1 i) (nm_r (nI_1 step) hf)))
theorem tc_c_times {post : SX → Prop} {stm lev : Int32} {len : Nat} {pc wt nst : Int32} {ka fi se th we ne ops args tasks starts : Nat → Int32} (hl : len ≤ 2048) (m i h : Nat) (tm : Fin 16) (t : Nat → Fin 16) (w : tc_Out) (hi : i < len) (ho : ops i = 5) (hh : h < 128) (hw : tc_Wc post stm lev len pc wt nst ka fi se th we ne ops args tasks starts m (i + 1) h (t h) t w) : tc_Wc post stm lev len pc wt nst ka fi se th we ne ops args tasks starts (m + 1) i h tm t w := by
  intro step h1 h2
  obtain ⟨fuel, hf⟩ := hw (step + 1) (by omega) (by first | omega | exact Nat.succ_le_succ h2)
  refine ⟨fuel + 1, ?_⟩
  have cl : (nI i).toNatClampNeg = i := nI_clamp (by omega)
  have vin : vp_in (nI i) 2048 := vp_in_nI (by omega) (by omega)
  have clh : (nI h).toNatClampNeg = h := nI_clamp (by omega)
  have vh : vp_in (nI h) 128 := vp_in_nI hh (by omega)
  exact br_f (nI_ge (b := 1000000000) (by omega) (by decide)) (br_f (nI_pos (by omega)) (br_f (nI_ge hi (by omega)) ⟨vin, nm_r (e' := args i) (by rw [cl]) ⟨vin, nm_r (e' := 5) (by rw [cl]; exact ho) (br_f (by decide) (br_f (by decide) (br_f (by decide) (br_f (by decide) (br_f (by decide) (br_f (by decide) (br_f (by decide) (br_t rfl (⟨vh, nm_r (e' := tc_I (t h)) (by rw [clh]) (nm_r (nI_1 i) (nm_r (nI_1 step) hf))⟩)))))))))⟩⟩))
theorem tc_c_once {post : SX → Prop} {stm lev : Int32} {len : Nat} {pc wt nst : Int32} {ka fi se th we ne ops args tasks starts : Nat → Int32} (hl : len ≤ 2048) (m i h : Nat) (tm : Fin 16) (t : Nat → Fin 16) (w : tc_Out) (hi : i < len) (ho : ops i = 6) (hh : h < 128) (hw : tc_Wc post stm lev len pc wt nst ka fi se th we ne ops args tasks starts m (i + 1) h 1 t w) : tc_Wc post stm lev len pc wt nst ka fi se th we ne ops args tasks starts (m + 1) i h tm t w := by
  intro step h1 h2
  obtain ⟨fuel, hf⟩ := hw (step + 1) (by omega) (by first | omega | exact Nat.succ_le_succ h2)
  refine ⟨fuel + 1, ?_⟩
  have cl : (nI i).toNatClampNeg = i := nI_clamp (by omega)
  have vin : vp_in (nI i) 2048 := vp_in_nI (by omega) (by omega)
  rw [tc_I_1] at hf
  exact br_f (nI_ge (b := 1000000000) (by omega) (by decide)) (br_f (nI_pos (by omega)) (br_f (nI_ge hi (by omega)) ⟨vin, nm_r (e' := args i) (by rw [cl]) ⟨vin, nm_r (e' := 6) (by rw [cl]; exact ho) (br_f (by decide) (br_t (by decide) (nm_r (nI_1 i) (nm_r (nI_1 step) hf))))⟩⟩))
theorem tc_mach {post : SX → Prop} {stm lev : Int32} {len : Nat} {pc wt nst : Int32} {ka fi se th we ne ops args tasks starts : Nat → Int32} (hl : len ≤ 2048) : tc_Mach ops args len (tc_Wc post stm lev len pc wt nst ka fi se th we ne ops args tasks starts) :=
  ⟨fun m i h tm t w hw step h1 h2 => hw step (by omega) h2, tc_c_move hl, tc_c_add hl, tc_c_open hl, tc_c_close hl, tc_c_print hl, tc_c_times hl, tc_c_once hl⟩
theorem tc_wc_end {post : SX → Prop} {stm lev : Int32} {len : Nat} {pc wt nst : Int32} {ka fi se th we ne ops args tasks starts : Nat → Int32} (hl : len ≤ 2048) {m h : Nat} {tm : Fin 16} {t : Nat → Fin 16} {w : tc_Out} (hp : post (stm, nI w.2, lev, nI len, pc, wt, nst, ka, fi, se, th, we, ne, (fun j => tc_I (t j)), w.1, ops, args, tasks, starts)) : tc_Wc post stm lev len pc wt nst ka fi se th we ne ops args tasks starts m len h tm t w := by
  intro step h1 h2
  refine ⟨1, br_c (fun _ => hp) (fun _ => br_c (fun _ => hp) (fun _ => br_t (nI_le (Nat.le_refl _) (by omega)) hp))⟩
