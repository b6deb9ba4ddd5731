/-! the text constant: cells 52 and 53 -/
def rafhv : List Int32 := [114, 97, 102, 104, 118]
section
variable {l : Launch} {D : va_G} {ad : Nat → Nat} {cA : ClassId} {d : Nat} {y : zM} {Post : Value → zS → Prop} {pc n a b t : Nat} {u v : Value} {L : List (Option Value)} {st : List Value} {S : zS}
theorem g_lds (h : z_at y.2 pc = some (.ldc 80, n, u, a, b, 1)) (hy : y.1.1.cls = "SignBook$Reader") (k : Go (l, wX, D, ad, cA) d y Post n L (.ref 52 :: st) S) : Go (l, wX, D, ad, cA) d y Post pc L st S := by
  intro p e s m args below meth c H locs ls C hP hS hl
  have kk := k p e s m args below meth c H locs ls C hP hS hl
  obtain ⟨ho, hx, hb, hml, hown, hts, hret, hlk, hK, hst, hap, hwk, hnw⟩ := C
  obtain ⟨hd, hv⟩ := z_get ho h
  simp only [z_rv, Bool.and_eq_true, decide_eq_true_eq] at hv
  obtain ⟨rfl, hv⟩ := hv
  rw [Nat.add_sub_cancel_left] at hd
  rw [hy] at hown
  exact va_ldcS hx hb hown hnw.2 hd kk
theorem g_sgv {i : Nat} (h : z_at y.2 pc = some (.getfield i, n, u, a, b, 20)) (ha : a = 0) (hw : z_wi b (.fieldLink y.1.1.cls i "java/lang/String" "value" "[B") = true) (k : Go (l, wX, D, ad, cA) d y Post n L (.ref 53 :: st) S) : Go (l, wX, D, ad, cA) d y Post pc L (.ref 52 :: st) S := by
  intro p e s m args below meth c H locs ls C hP hS hl
  have kk := k p e s m args below meth c H locs ls C hP hS hl
  obtain ⟨ho, hx, hb, hml, hown, hts, hret, hlk, hK, hst, hap, hwk, hnw⟩ := C
  obtain ⟨hd, hv⟩ := z_get ho h
  simp only [z_rv, Bool.and_eq_true, decide_eq_true_eq] at hv
  obtain ⟨rfl, -⟩ := hv
  rw [Nat.add_sub_cancel_left] at hd
  exact vk_getf hx hb (hst.2.1.1 0 (by decide)).2.2.1 hS hown (hts _ (z_wi_in hw)) (fun _ z => z) hd kk
theorem g_sgc {i : Nat} (h : z_at y.2 pc = some (.getfield i, n, u, a, b, 20)) (ha : a = 1) (hw : z_wi b (.fieldLink y.1.1.cls i "java/lang/String" "coder" "B") = true) (k : Go (l, wX, D, ad, cA) d y Post n L (.int 0 :: st) S) : Go (l, wX, D, ad, cA) d y Post pc L (.ref 52 :: st) S := by
  intro p e s m args below meth c H locs ls C hP hS hl
  have kk := k p e s m args below meth c H locs ls C hP hS hl
  obtain ⟨ho, hx, hb, hml, hown, hts, hret, hlk, hK, hst, hap, hwk, hnw⟩ := C
  obtain ⟨hd, hv⟩ := z_get ho h
  simp only [z_rv, Bool.and_eq_true, decide_eq_true_eq] at hv
  obtain ⟨rfl, -⟩ := hv
  rw [Nat.add_sub_cancel_left] at hd
  exact vk_getf hx hb (hst.2.1.1 0 (by decide)).2.1 hS hown (hts _ (z_wi_in hw)) (fun _ z => z) hd kk
theorem g_gsz {i : Nat} (h : z_at y.2 pc = some (.getstatic i, n, u, a, b, t)) (ha : z_sn a = ("java/lang/String", "COMPACT_STRINGS", "Z")) (ht : Nat.beq t 0 = true) (k : Go (l, wX, D, ad, cA) d y Post n L (.int 1 :: st) S) : Go (l, wX, D, ad, cA) d y Post pc L st S := by
  intro p e s m args below meth c H locs ls C hP hS hl
  have kk := k p e s m args below meth c H locs ls C hP hS hl
  obtain ⟨ho, hx, hb, hml, hown, hts, hret, hlk, hK, hst, hap, hwk, hnw⟩ := C
  obtain ⟨hd, hv⟩ := z_get ho h
  simp only [z_rv, ha, ht, Bool.and_eq_true, decide_eq_true_eq] at hv
  obtain ⟨rfl, hv⟩ := hv
  rw [Nat.add_sub_cancel_left] at hd
  exact va_gets hx hb hst.2.2 hS hown (hts _ (z_wi_in hv)) (fun _ z => z) hd kk
theorem g_blen (h : z_at y.2 pc = some (.arraylength, n, u, a, b, t)) (k : Go (l, wX, D, ad, cA) d y Post n L (.int 5 :: st) S) : Go (l, wX, D, ad, cA) d y Post pc L (.ref 53 :: st) S := by
  intro p e s m args below meth c H locs ls C hP hS hl
  have kk := k p e s m args below meth c H locs ls C hP hS hl
  obtain ⟨ho, hx, hb, hml, hown, hts, hret, hlk, hK, hst, hap, hwk, hnw⟩ := C
  obtain ⟨hd, hv⟩ := z_get ho h
  simp only [z_rv, decide_eq_true_eq] at hv; subst hv; rw [Nat.add_sub_cancel_left] at hd
  obtain ⟨cell, h1, h2, h3, h4, h5, h6, h7⟩ := (hst.2.1.1 0 (by decide)).2.2.2
  exact W.alen (n := 5) hx hb (cell := cell) (by rw [hS.2.1 _ (Array.getElem?_eq_some_iff.mp h1).1 h7]; exact h1) h2 h5 rfl rfl hd kk
theorem g_bld {x : Int32} (h : z_at y.2 pc = some (.baload, n, u, a, b, t)) (hin : vp_in x 5) (k : Go (l, wX, D, ad, cA) d y Post n L (.int (rafhv.getD x.toNatClampNeg 0) :: st) S) : Go (l, wX, D, ad, cA) d y Post pc L (.int x :: .ref 53 :: st) S := by
  intro p e s m args below meth c H locs ls C hP hS hl
  have kk := k p e s m args below meth c H locs ls C hP hS hl
  obtain ⟨ho, hx, hb, hml, hown, hts, hret, hlk, hK, hst, hap, hwk, hnw⟩ := C
  obtain ⟨hd, hv⟩ := z_get ho h
  simp only [z_rv, decide_eq_true_eq] at hv; subst hv; rw [Nat.add_sub_cancel_left] at hd
  exact va_tb hx hb (hst.2.1.1 0 (by decide)).2.2.2 hS hin rfl hd kk
theorem g_cvs {d' i : Nat} {y' : zM} {as rest : List Value} {Post' : Value → zS → Prop} (h : z_at y.2 pc = some (.invokevirtual i, n, u, a, b, t)) (hs : Sp (l, wX, D, ad, cA) d' y' (.ref 52 :: as) S Post') (hd : d' < d) (hid : zN[a]? = some y'.1) (hst0 : st = as.reverse ++ .ref 52 :: rest) (hC : y'.1.1.cls = "java/lang/String") (hsta : z_stat y'.1 = false) (hn : as.length = y'.1.2.2.2.2.1) (hm : Nat.ble y'.1.2.2.1 45 = true) (hcat : Nat.ble (rest.map fun v => v.category).sum 8 = true)
    (k : ∀ v S', Post' v S' → Go (l, wX, D, ad, cA) d y Post n L (z_pu v rest) S') : Go (l, wX, D, ad, cA) d y Post pc L st S := by
  intro p e s m args below meth c H locs ls C hP hS hl
  have C0 := C
  obtain ⟨ho, hx, hb, hml, hown, hts, hret, hlk, hK, hst, hap, hwk, hnw⟩ := C
  obtain ⟨hdg, hv⟩ := z_get ho h
  simp only [z_rv, hid, Bool.and_eq_true, decide_eq_true_eq] at hv
  obtain ⟨rfl, hv⟩ := hv
  rw [Nat.add_sub_cancel_left] at hdg
  obtain ⟨hdk, hM⟩ := hs
  obtain ⟨w1, w2, w3, w4, w5, w6, w7⟩ := z_dok_v hdk hsta
  have hrecv := vk_recv (i := 0) hst.2.1 (by decide) hS
  rw [← hC] at hrecv
  have hrun := va_runV (p := p) (l := l) (e := e) (R := z_rm d) (below := below) (meth := meth) (locs := locs) (cells := 0) (slots := 0) (As := as.map (z_v ad)) (rest := rest.map (z_v ad)) (g := F0 m pc ls (st.map (z_v ad))) (H := H) (b := ad 52) (C := y'.1.1.cls) (Ts := z_T) (own := y.1.1.cls) (index := i) ⟨hx, hb, hml, hown, hts⟩ hM
    (cwV (bytes := y'.1.2.1) (maxL := y'.1.2.2.1) (ret := y'.1.2.2.2.1) (ws' := z_T) (mc := 0) (ms := 0) y'.1.2.2.2.2.1 hts (z_goodT (fun w hw => by
      rcases List.mem_append.mp hw with hw | hw
      · simp only [List.mem_cons, List.not_mem_nil, or_false] at hw
        rcases hw with rfl | rfl | rfl | rfl
        · exact z_wi_in hv
        · exact w3
        · exact w4
        · exact w2
      · exact z_wd_in w1 w hw)) rfl rfl rfl ⟨rfl, w5, w6, w7⟩ (z_rooms hd hm))
    ⟨z_blind, hrecv, fun U hU hW => ⟨rfl, z_Wd.of hU hW hP hK hst hap hwk hnw hS⟩⟩ rfl (by rw [List.length_map]; exact hn) (hl.1) (by show st.map (z_v ad) = _; rw [hst0]; simp [z_v]) (lv_room (z_cats hcat)) hdg ⟨Nat.le_refl _, Nat.le_refl _⟩
  refine z_call hrun hS (fun v S' H1 locs1 hnr hp hP1 hS1 => ?_)
  rw [z_pu_map v hnr]
  exact k v S' hp p e s m args below meth c H1 locs1 ls C0 hP1 hS1 hl
end
