/-! returns, calls, static rows, divisions, switches -/
section
variable {X : zX} {d : Nat} {y : zM} {Post : Value → zS → Prop} {pc n a b t : Nat} {ins : Instr} {u v : Value} {L L' L1 : List (Option Value)} {st : List Value} {S : zS}
theorem g_ri {x : Int32} {ty : FieldType} (h : z_at y.2 pc = some (.ireturn, n, u, a, b, t)) (hr : y.1.2.2.2.1 = some ty) (hn : narrow ty (.int x) = .int x) (hp : Post (.int x) S) : Go X d y Post pc L [.int x] S := by
  intro p e s m args below meth c H locs ls C hP hS hl
  obtain ⟨ho, hx, hb, hml, hown, hts, hret, hlk, hK, hst, hap, hwk, hnw⟩ := C
  obtain ⟨hd, hv⟩ := z_get ho h
  simp only [z_rv, decide_eq_true_eq] at hv; subst hv; rw [Nat.add_sub_cancel_left] at hd
  exact W.zret hx hb (hret.trans hr) hn (fun t ht hW => ⟨⟨.int x, S, rfl, rfl, hp, by rw [ht]; exact hP⟩, hS.F ht⟩) (fun q hq => hS.2.2 q hq) hd (hlocks := hlk)
theorem g_rl {x : Int64} (h : z_at y.2 pc = some (.lreturn, n, u, a, b, t)) (hr : y.1.2.2.2.1 = some .long) (hp : Post (.long x) S) : Go X d y Post pc L [.long x] S := by
  intro p e s m args below meth c H locs ls C hP hS hl
  obtain ⟨ho, hx, hb, hml, hown, hts, hret, hlk, hK, hst, hap, hwk, hnw⟩ := C
  obtain ⟨hd, hv⟩ := z_get ho h
  simp only [z_rv, decide_eq_true_eq] at hv; subst hv; rw [Nat.add_sub_cancel_left] at hd
  exact W.lret hx hb (hret.trans hr) (fun t ht hW => ⟨⟨.long x, S, rfl, rfl, hp, by rw [ht]; exact hP⟩, hS.F ht⟩) (fun q hq => hS.2.2 q hq) hd (hlocks := hlk)
theorem g_rv (h : z_at y.2 pc = some (.return_, n, u, a, b, t)) (hr : y.1.2.2.2.1 = none) (hp : Post .null S) : Go X d y Post pc L [] S := by
  intro p e s m args below meth c H locs ls C hP hS hl
  obtain ⟨ho, hx, hb, hml, hown, hts, hret, hlk, hK, hst, hap, hwk, hnw⟩ := C
  obtain ⟨hd, hv⟩ := z_get ho h
  simp only [z_rv, decide_eq_true_eq] at hv; subst hv; rw [Nat.add_sub_cancel_left] at hd
  exact W.vret hx hb (hret.trans hr) (fun t ht hW => ⟨⟨.null, S, rfl, rfl, hp, by rw [ht]; exact hP⟩, hS.F ht⟩) (fun q hq => hS.2.2 q hq) hd (hlocks := hlk)
theorem z_call {p : Program} {l : Launch} {e : Env} {R : Room} {s : State} {m : MethodId} {args a0 : Array Value} {below : List Frame} {meth : Method} {c : Code} {H : Heap} {locs : List Loc} {ls : Array Slot} {st0 rest : List Value} {Q : State → Prop} {Post' : Value → zS → Prop}
    (hr : va_Run p l e R s m args below meth c H locs 0 0 0 0 (F0 m pc ls st0) rest (z_Q X Post' a0) (z_A X)) (hS : va_S (z_A X) s.heap H locs)
    (kk : ∀ (v : Value) (S' : zS) (H1 : Heap) (locs1 : List Loc), z_nr v = true → Post' v S' → va_P X.2.2.1 zcl (z_ws X S') H1 → va_S (z_A X) s.heap H1 locs1 → W p l e R s m args below meth c H1 locs1 0 0 Q (F0 m (pc + 3) ls ((z_o v).toList ++ rest))) : W p l e R s m args below meth c H locs 0 0 Q (F0 m pc ls st0) := by
  intro T hT X'
  obtain ⟨v, st₀, t, T', L, h0, X'', hL, e1, e2, ⟨⟨v', S', hv0, hv, hp, hb⟩, hz, hk⟩, st⟩ := hr T hT X'
  cases hv
  rw [h0] at hz hk
  obtain ⟨t2, a1, b1⟩ := kk v' S' T'.heap (locs ++ L) hv0 hp (by rw [e1]; exact hb) ⟨Nat.le_trans hS.1 (by rw [e1]; exact hz), fun q h1 h2 => by rw [e1, hk q (Nat.lt_of_lt_of_le h1 hS.1) h2]; exact hS.2.1 q h1 h2, fun q hq => by
      rcases List.mem_append.mp hq with h | h
      · exact hS.2.2 q h
      · exact hL q h⟩ T' rfl X''
  exact ⟨t2, st t2 a1, b1⟩
theorem z_pu_map {ad : Nat → Nat} (v : Value) (hv : z_nr v = true) (rest : List Value) : (z_o v).toList ++ rest.map (z_v ad) = (z_pu v rest).map (z_v ad) := by
  cases v <;> first | rfl | cases hv
theorem z_dok_v {q : zD} (h : z_dok q = true) (hs : z_stat q = false) : Cond.code q.1 q.2.1 q.2.2.1 q.2.2.2.1 ∈ z_T ∧ Cond.initialized q.1.cls ∈ z_T ∧ Cond.instanceMethod q.1 ∈ z_T ∧ Cond.selects q.1.cls q.1 q.1 ∈ z_T ∧ q.1.cls ≠ "java/lang/invoke/MethodHandle" ∧ q.1.cls ≠ "java/lang/invoke/VarHandle" ∧ (parseMethodDescriptor q.1.desc).map (fun d => d.parameters.length) = some q.2.2.2.2.1 := by
  unfold z_dok at h
  unfold z_stat at hs
  split at h
  · next e => rw [e] at hs; cases hs
  · simp only [Bool.and_eq_true, decide_eq_true_eq] at h
    obtain ⟨⟨⟨⟨⟨h1, h2⟩, h3⟩, h4⟩, h5⟩, h6⟩ := h
    exact ⟨z_wi_in h1, z_wi_in h2, z_wi_in h3, z_wi_in h4, h6⟩
  · cases h
theorem z_dok_s {q : zD} (h : z_dok q = true) (hs : z_stat q = true) : Cond.code q.1 q.2.1 q.2.2.1 q.2.2.2.1 ∈ z_T ∧ Cond.initialized q.1.cls ∈ z_T ∧ Cond.static q.1 ∈ z_T ∧ q.1.cls ≠ "java/lang/invoke/MethodHandle" ∧ q.1.cls ≠ "java/lang/invoke/VarHandle" ∧ (parseMethodDescriptor q.1.desc).map (fun d => d.parameters.length) = some q.2.2.2.2.1 := by
  unfold z_dok at h
  unfold z_stat at hs
  split at h
  · simp only [Bool.and_eq_true, decide_eq_true_eq] at h
    obtain ⟨⟨⟨⟨h1, h2⟩, h3⟩, h5⟩, h6⟩ := h
    exact ⟨z_wi_in h1, z_wi_in h2, z_wi_in h3, h6⟩
  · next e => rw [e] at hs; cases hs
  · cases h
theorem z_goodT {ws : List Cond} (h : ∀ w ∈ ws, w ∈ z_T) : GoodIn z_T ws := fun w hw => ⟨h w hw, good_of_word (z_T_good (h w hw))⟩
theorem z_wd_in {q : zD} (h : Cond.code q.1 q.2.1 q.2.2.1 q.2.2.2.1 ∈ z_T) : ∀ w ∈ z_wd q, w ∈ z_T := fun w hw => by
  rcases List.mem_cons.mp hw with rfl | hw
  · exact h
  · exact hw
theorem z_blind {av : List Value} : FrameBlind (va_Pc av (z_Wd X S)) := fun a U g mk q => by
  obtain ⟨q0, qP, qK, qS, qA, qW, qN⟩ := q
  exact ⟨q0, qP, va_K.moved (u := U) (U := U.calling g mk a) (Vm.Alike.refl U.vm) qK, z_st.go (u := U) (U := U.calling g mk a) qW (Vm.Alike.refl U.vm) (fun _ _ _ => rfl) qS, qA, qW, z_nw.same (u := U) (U := U.calling g mk a) rfl qN⟩
theorem z_rooms {d d' maxL : Nat} (hd : d' < d) (hm : Nat.ble maxL 45 = true) : (z_rm d').frames + 1 ≤ (z_rm d).frames ∧ 8 + (maxL + 11) + (z_rm d').locals ≤ (z_rm d).locals := by
  have := Nat.le_of_ble_eq_true hm
  simp only [z_rm]
  omega
theorem z_cats {ad : Nat → Nat} {st : List Value} (h : Nat.ble (st.map fun v => v.category).sum 8 = true) : ((st.map (z_v ad)).map fun v => v.category).sum ≤ 8 := by
  rw [List.map_map]
  have e : (st.map ((fun v => v.category) ∘ z_v ad)) = st.map (fun v => v.category) := List.map_congr_left (fun v _ => z_v_cat _ v)
  rw [e]; exact Nat.le_of_ble_eq_true h
theorem z_Wd.of {s U : State} {H : Heap} {locs : List Loc} (hU : U.heap = H) (hW : s.WarmedH U.vm) (hP : va_P X.2.2.1 zcl (z_ws X S) H) (hK : va_K X.2.2.1 zcl [(X.2.2.2.2, .int)] s) (hst : z_st X s s.heap) (hap : z_ap X) (hwk : z_wok X.2.1) (hnw : z_nw X.2.2.2.1 s) (hS : va_S (z_A X) s.heap H locs) : z_Wd X S U :=
  ⟨by rw [hU]; exact hP, va_K.moved hW.alike hK, z_st.go hwk hW.alike (fun a h1 h2 => by rw [hU]; exact hS.2.1 a h1 h2) hst, hap, hwk, hnw.warm hW⟩
theorem g_cv {d' i r ci : Nat} {y' : zM} {as rest : List Value} {Post' : Value → zS → Prop} (h : z_at y.2 pc = some (.invokevirtual i, n, u, a, b, t)) (hs : Sp X d' y' (.ref r :: as) S Post') (hd : d' < d) (hid : zN[a]? = some y'.1) (hst0 : st = as.reverse ++ .ref r :: rest) (hr : Nat.blt r X.2.1.1 = true) (hc : X.2.1.2.1 r = .inl ci) (hC : (zcl[ci]?).map (fun q => q.1) = some y'.1.1.cls) (hsta : z_stat y'.1 = false) (hn : as.length = y'.1.2.2.2.2.1) (hm : Nat.ble y'.1.2.2.1 45 = true) (hcat : Nat.ble (rest.map fun v => v.category).sum 8 = true)
    (k : ∀ v S', Post' v S' → Go X d y Post n L (z_pu v rest) S') : Go X d y Post pc L st S := by
  intro p e s m args below meth c H locs ls C hP hS hl
  have C0 := C
  obtain ⟨ho, hx, hb, hml, hown, hts, hret, hlk, hK, hst, hap, hwk, hnw⟩ := C
  obtain ⟨hdg, hv⟩ := z_get ho h
  simp only [z_rv, hid, Bool.and_eq_true, decide_eq_true_eq] at hv
  obtain ⟨rfl, hv⟩ := hv
  rw [Nat.add_sub_cancel_left] at hdg
  obtain ⟨hdk, hM⟩ := hs
  obtain ⟨w1, w2, w3, w4, w5, w6, w7⟩ := z_dok_v hdk hsta
  obtain ⟨q, hq, hqC⟩ : ∃ q, zcl[ci]? = some q ∧ q.1 = y'.1.1.cls := by
    cases hz : zcl[ci]? with
    | none => rw [hz] at hC; cases hC
    | some q => rw [hz] at hC; exact ⟨q, rfl, Option.some.inj hC⟩
  have hrN : r < X.2.1.1 := by simpa [Nat.blt_eq] using hr
  have hrecv := va_recv hK hP hq (q0 := r) (a := X.2.2.2.1 r) (fs := (List.range (z_nf ci)).map (z_fd X S r)) (by rw [z_ws_get hrN]; simp only [z_en, hc])
  rw [hqC] at hrecv
  have hrun := va_runV (p := p) (l := X.1) (e := e) (R := z_rm d) (below := below) (meth := meth) (locs := locs) (cells := 0) (slots := 0) (As := as.map (z_v X.2.2.2.1)) (rest := rest.map (z_v X.2.2.2.1)) (g := F0 m pc ls (st.map (z_v X.2.2.2.1))) (H := H) (b := X.2.2.2.1 r) (C := y'.1.1.cls) (Ts := z_T) (own := y.1.1.cls) (index := i) ⟨hx, hb, hml, hown, hts⟩ hM
    (cwV (bytes := y'.1.2.1) (maxL := y'.1.2.2.1) (ret := y'.1.2.2.2.1) (ws' := z_T) (mc := 0) (ms := 0) y'.1.2.2.2.2.1 hts (z_goodT (fun w hw => by
      rcases List.mem_append.mp hw with hw | hw
      · simp only [List.mem_cons, List.not_mem_nil, or_false] at hw
        rcases hw with rfl | rfl | rfl | rfl
        · exact z_wi_in hv
        · exact w3
        · exact w4
        · exact w2
      · exact z_wd_in w1 w hw)) rfl rfl rfl ⟨rfl, w5, w6, w7⟩ (z_rooms hd hm))
    ⟨z_blind, hrecv, fun U hU hW => ⟨rfl, z_Wd.of hU hW hP hK hst hap hwk hnw hS⟩⟩ rfl (by rw [List.length_map]; exact hn) (hl.1) (by show st.map (z_v X.2.2.2.1) = _; rw [hst0]; simp [z_v]) (lv_room (z_cats hcat)) hdg ⟨Nat.le_refl _, Nat.le_refl _⟩
  refine z_call hrun hS (fun v S' H1 locs1 hnr hp hP1 hS1 => ?_)
  rw [z_pu_map v hnr]
  exact k v S' hp p e s m args below meth c H1 locs1 ls C0 hP1 hS1 hl
theorem g_cs {d' i : Nat} {y' : zM} {as rest : List Value} {Post' : Value → zS → Prop} (h : z_at y.2 pc = some (.invokestatic i, n, u, a, b, t)) (hs : Sp X d' y' as S Post') (hd : d' < d) (hid : zN[a]? = some y'.1) (hst0 : st = as.reverse ++ rest) (hsta : z_stat y'.1 = true) (hn : as.length = y'.1.2.2.2.2.1) (hm : Nat.ble y'.1.2.2.1 45 = true) (hcat : Nat.ble (rest.map fun v => v.category).sum 8 = true)
    (k : ∀ v S', Post' v S' → Go X d y Post n L (z_pu v rest) S') : Go X d y Post pc L st S := by
  intro p e s m args below meth c H locs ls C hP hS hl
  have C0 := C
  obtain ⟨ho, hx, hb, hml, hown, hts, hret, hlk, hK, hst, hap, hwk, hnw⟩ := C
  obtain ⟨hdg, hv⟩ := z_get ho h
  simp only [z_rv, hid, Bool.and_eq_true, decide_eq_true_eq] at hv
  obtain ⟨rfl, hv⟩ := hv
  rw [Nat.add_sub_cancel_left] at hdg
  obtain ⟨hdk, hM⟩ := hs
  obtain ⟨w1, w2, w3, w5, w6, w7⟩ := z_dok_s hdk hsta
  have hpre : PreS s H (va_Pc (as.map (z_v X.2.2.2.1)) (z_Wd X S)) (as.map (z_v X.2.2.2.1)) := ⟨z_blind, fun U hU hW => ⟨rfl, z_Wd.of hU hW hP hK hst hap hwk hnw hS⟩⟩
  have hstk : (F0 m pc ls (st.map (z_v X.2.2.2.1))).stack = (as.map (z_v X.2.2.2.1)).reverse ++ rest.map (z_v X.2.2.2.1) := by
    show st.map (z_v X.2.2.2.1) = _; rw [hst0]; simp
  have hgo : ∀ hrun : va_Run p X.1 e (z_rm d) s m args below meth c H locs 0 0 0 0 (F0 m pc ls (st.map (z_v X.2.2.2.1))) (rest.map (z_v X.2.2.2.1)) (z_Q X Post' (as.map (z_v X.2.2.2.1)).toArray) (z_A X), W p X.1 e (z_rm d) s m args below meth c H locs 0 0 (MQ below (z_Q X Post) args s 0 0 (z_A X)) (F0 m pc ls (st.map (z_v X.2.2.2.1))) := by
    intro hrun
    refine z_call hrun hS (fun v S' H1 locs1 hnr hp hP1 hS1 => ?_)
    rw [z_pu_map v hnr]
    exact k v S' hp p e s m args below meth c H1 locs1 ls C0 hP1 hS1 hl
  cases ht : Nat.beq t 0 with
  | true =>
    rw [ht] at hv
    have hv : z_wi b (.methodLink y.1.1.cls i y'.1.1) = true := hv
    exact hgo (va_runS (bytes := y'.1.2.1) (maxL := y'.1.2.2.1) (ret := y'.1.2.2.2.1) (nL := y.1.2.2.1) (cc := y.1.2.1) (Ts := z_T) (own := y.1.1.cls) (index := i) ⟨hx, hb, hml, hown, hts⟩ hM
      (va_cwS (ws' := z_T) (mc := 0) (ms := 0) y'.1.2.2.2.2.1 hts (z_goodT (fun w hw => by
        rcases List.mem_append.mp hw with hw | hw
        · simp only [List.mem_cons, List.not_mem_nil, or_false] at hw
          rcases hw with rfl | rfl | rfl
          · exact z_wi_in hv
          · exact w3
          · exact w2
        · exact z_wd_in w1 w hw)) rfl rfl rfl ⟨w5, w6, w7⟩ (z_rooms hd hm)) hpre rfl (by rw [List.length_map]; exact hn) hl.1 hstk (lv_room (z_cats hcat)) hdg ⟨Nat.le_refl _, Nat.le_refl _⟩)
  | false =>
    rw [ht] at hv
    have hv : Cond.methodLinkNest y.1.1.cls i y'.1.1 "SignBook" ∈ z_Nl := of_decide_eq_true hv
    exact hgo (va_runSN (bytes := y'.1.2.1) (maxL := y'.1.2.2.1) (ret := y'.1.2.2.2.1) (nL := y.1.2.2.1) (cc := y.1.2.1) (Ts := z_T) (own := y.1.1.cls) (index := i) ⟨hx, hb, hml, hown, hts⟩ hM
      ⟨va_cnB (ws' := z_T) (mc := 0) (ms := 0) y'.1.2.2.2.2.1 hts (z_goodT (z_wd_in w1)) rfl rfl rfl (hnw.1 _ hv) (hts _ w2) ⟨w5, w6, w7⟩ (z_rooms hd hm), hts _ w3, trivial⟩ hpre rfl (by rw [List.length_map]; exact hn) hl.1 hstk (lv_room (z_cats hcat)) hdg ⟨Nat.le_refl _, Nat.le_refl _⟩)
/-! static rows -/
def z_sf : List zQ → Nat → Option zQ
  | [], _ => none
  | q :: l, n => bif Nat.beq q.2.2.1 n then some q else z_sf l n
theorem z_sf_mem : ∀ (l : List zQ) (n : Nat) (q : zQ), z_sf l n = some q → q ∈ l ∧ q.2.2.1 = n
  | [], _, _, h => by cases h
  | r :: l, n, i, h => by
    rw [z_sf] at h
    cases hb : Nat.beq r.2.2.1 n with
    | true =>
      rw [hb] at h
      cases h
      exact ⟨List.mem_cons_self, Nat.eq_of_beq_eq_true hb⟩
    | false =>
      rw [hb] at h
      obtain ⟨h1, h2⟩ := z_sf_mem l n i h
      exact ⟨List.mem_cons_of_mem _ h1, h2⟩
theorem g_gs {i : Nat} {q : zQ} (h : z_at y.2 pc = some (.getstatic i, n, u, a, b, t)) (hq : z_sf X.2.1.2.2.2.1 a = some q) (hn : (q.1, q.2.1, "[I") = z_sn a) (k : Go X d y Post n L (.ref a :: st) S) : Go X d y Post pc L st S := by
  intro p e s m args below meth c H locs ls C hP hS hl
  have kk := k p e s m args below meth c H locs ls C hP hS hl
  obtain ⟨ho, hx, hb, hml, hown, hts, hret, hlk, hK, hst, hap, hwk, hnw⟩ := C
  obtain ⟨hd, hv⟩ := z_get ho h
  obtain ⟨hm, ha⟩ := z_sf_mem _ _ _ hq
  subst ha
  obtain ⟨hZ, -⟩ := hst.1 q hm
  simp only [z_rv, ← hn, Bool.and_eq_true, decide_eq_true_eq] at hv
  obtain ⟨rfl, hv⟩ := hv
  rw [Nat.add_sub_cancel_left] at hd
  cases ht : Nat.beq t 0 with
  | true =>
    rw [ht] at hv
    exact va_gets hx hb hZ hS hown (hts _ (z_wi_in hv)) (fun _ z => z) hd kk
  | false =>
    rw [ht] at hv
    exact va_getsN hx hb hZ hS hown (va_Nw.use rfl (hnw.1 _ (of_decide_eq_true hv))) (fun _ z => z) hd kk
theorem g_tld {q : zQ} {r : Nat} {x : Int32} (h : z_at y.2 pc = some (.iaload, n, u, a, b, t)) (hq : z_sf X.2.1.2.2.2.1 r = some q) (hin : vp_in x q.2.2.2.1) (k : Go X d y Post n L (.int (q.2.2.2.2 x.toNatClampNeg) :: st) S) : Go X d y Post pc L (.int x :: .ref r :: st) S := by
  intro p e s m args below meth c H locs ls C hP hS hl
  have kk := k p e s m args below meth c H locs ls C hP hS hl
  obtain ⟨ho, hx, hb, hml, hown, hts, hret, hlk, hK, hst, hap, hwk, hnw⟩ := C
  obtain ⟨hd, hv⟩ := z_get ho h
  obtain ⟨hm, ha⟩ := z_sf_mem _ _ _ hq
  subst ha
  obtain ⟨-, cell, h1, h2, h3, h4, h5, h6, h7⟩ := hst.1 q hm
  simp only [z_rv, decide_eq_true_eq] at hv; subst hv; rw [Nat.add_sub_cancel_left] at hd
  have hlt : x.toNatClampNeg < q.2.2.2.1 := Nat.not_le.mp fun z => hin (Or.inr z)
  exact W.iald hx hb (cell := cell) (by rw [hS.2.1 _ (Array.getElem?_eq_some_iff.mp h1).1 h7]; exact h1) h2 h3 (fun z => z.elim (fun z => hin (Or.inl z)) (fun z => by omega)) (h6 _ hlt) rfl rfl hd kk
theorem g_tlen {q : zQ} {r : Nat} (h : z_at y.2 pc = some (.arraylength, n, u, a, b, t)) (hq : z_sf X.2.1.2.2.2.1 r = some q) (k : Go X d y Post n L (.int (nI q.2.2.2.1) :: st) S) : Go X d y Post pc L (.ref r :: st) S := by
  intro p e s m args below meth c H locs ls C hP hS hl
  have kk := k p e s m args below meth c H locs ls C hP hS hl
  obtain ⟨ho, hx, hb, hml, hown, hts, hret, hlk, hK, hst, hap, hwk, hnw⟩ := C
  obtain ⟨hd, hv⟩ := z_get ho h
  obtain ⟨hm, ha⟩ := z_sf_mem _ _ _ hq
  subst ha
  obtain ⟨-, cell, h1, h2, h3, h4, h5, h6, h7⟩ := hst.1 q hm
  simp only [z_rv, decide_eq_true_eq] at hv; subst hv; rw [Nat.add_sub_cancel_left] at hd
  exact W.alen (n := nI q.2.2.2.1) hx hb (cell := cell) (by rw [hS.2.1 _ (Array.getElem?_eq_some_iff.mp h1).1 h7]; exact h1) h2 h5 rfl rfl hd kk
/-! divisions, Math.max, switches -/
theorem g_idiv {x z : Int32} (h : z_at y.2 pc = some (.idiv, n, u, a, b, t)) (hz : ¬ z = 0) (k : Go X d y Post n L (.int (x / z) :: st) S) : Go X d y Post pc L (.int z :: .int x :: st) S := by
  intro p e s m args below meth c H locs ls C hP hS hl
  have kk := k p e s m args below meth c H locs ls C hP hS hl
  obtain ⟨ho, hx, hb, -⟩ := C
  obtain ⟨hd, hv⟩ := z_get ho h
  simp only [z_rv, decide_eq_true_eq] at hv; subst hv; rw [Nat.add_sub_cancel_left] at hd
  exact lv_idiv hx hb hd hz kk
theorem g_irem {x z : Int32} (h : z_at y.2 pc = some (.irem, n, u, a, b, t)) (hz : ¬ z = 0) (k : Go X d y Post n L (.int (x - x / z * z) :: st) S) : Go X d y Post pc L (.int z :: .int x :: st) S := by
  intro p e s m args below meth c H locs ls C hP hS hl
  have kk := k p e s m args below meth c H locs ls C hP hS hl
  obtain ⟨ho, hx, hb, -⟩ := C
  obtain ⟨hd, hv⟩ := z_get ho h
  simp only [z_rv, decide_eq_true_eq] at hv; subst hv; rw [Nat.add_sub_cancel_left] at hd
  exact lv_irem hx hb hd hz kk
theorem g_ldiv {x z : Int64} (h : z_at y.2 pc = some (.ldiv, n, u, a, b, t)) (hz : ¬ z = 0) (k : Go X d y Post n L (.long (x / z) :: st) S) : Go X d y Post pc L (.long z :: .long x :: st) S := by
  intro p e s m args below meth c H locs ls C hP hS hl
  have kk := k p e s m args below meth c H locs ls C hP hS hl
  obtain ⟨ho, hx, hb, -⟩ := C
  obtain ⟨hd, hv⟩ := z_get ho h
  simp only [z_rv, decide_eq_true_eq] at hv; subst hv; rw [Nat.add_sub_cancel_left] at hd
  exact lv_ldiv hx hb hd hz kk
theorem g_lrem {x z : Int64} (h : z_at y.2 pc = some (.lrem, n, u, a, b, t)) (hz : ¬ z = 0) (k : Go X d y Post n L (.long (x - x / z * z) :: st) S) : Go X d y Post pc L (.long z :: .long x :: st) S := by
  intro p e s m args below meth c H locs ls C hP hS hl
  have kk := k p e s m args below meth c H locs ls C hP hS hl
  obtain ⟨ho, hx, hb, -⟩ := C
  obtain ⟨hd, hv⟩ := z_get ho h
  simp only [z_rv, decide_eq_true_eq] at hv; subst hv; rw [Nat.add_sub_cancel_left] at hd
  exact lv_lrem hx hb hd hz kk
theorem g_max {i : Nat} {x z : Int32} (h : z_at y.2 pc = some (.invokestatic i, n, u, 997, b, t)) (hcat : Nat.ble (st.map fun v => v.category).sum 8 = true) (k : Go X d y Post n L (.int (if x < z then z else x) :: st) S) : Go X d y Post pc L (.int z :: .int x :: st) S := by
  intro p e s m args below meth c H locs ls C hP hS hl
  have kk := k p e s m args below meth c H locs ls C hP hS hl
  obtain ⟨ho, hx, hb, hml, hown, hts, -⟩ := C
  obtain ⟨hd, hv⟩ := z_get ho h
  simp only [z_rv, Bool.and_eq_true, decide_eq_true_eq] at hv
  obtain ⟨rfl, hv⟩ := hv
  rw [Nat.add_sub_cancel_left] at hd
  have hv : z_wi b (.methodLink y.1.1.cls i Lib.Math.max.name) = true := hv
  have := z_cats (ad := X.2.2.2.1) hcat
  exact va_mmax hx hb (hml.trans hl.1.symm) hown (hts _ (z_wi_in hv)) (hts _ z_in_mst) (hts _ z_in_min) (hts _ z_in_mco) (by simp only [z_rm]; omega) (by simp only [z_rm]; omega) (Nat.le_refl _) (Nat.le_refl _) hd kk
theorem g_min {i : Nat} {x z : Int32} (h : z_at y.2 pc = some (.invokestatic i, n, u, 996, b, t)) (hcat : Nat.ble (st.map fun v => v.category).sum 8 = true) (k : Go X d y Post n L (.int (if z < x then z else x) :: st) S) : Go X d y Post pc L (.int z :: .int x :: st) S := by
  intro p e s m args below meth c H locs ls C hP hS hl
  have kk := k p e s m args below meth c H locs ls C hP hS hl
  obtain ⟨ho, hx, hb, hml, hown, hts, -⟩ := C
  obtain ⟨hd, hv⟩ := z_get ho h
  simp only [z_rv, Bool.and_eq_true, decide_eq_true_eq] at hv
  obtain ⟨rfl, hv⟩ := hv
  rw [Nat.add_sub_cancel_left] at hd
  have hv : z_wi b (.methodLink y.1.1.cls i Lib.Math.min.name) = true := hv
  have := z_cats (ad := X.2.2.2.1) hcat
  exact va_mmin hx hb (hml.trans hl.1.symm) hown (hts _ (z_wi_in hv)) (hts _ z_in_nst) (hts _ z_in_min) (hts _ z_in_nco) (by simp only [z_rm]; omega) (by simp only [z_rm]; omega) (Nat.le_refl _) (Nat.le_refl _) hd kk
theorem g_tin {dflt lo hi off : Int} {offs : Array Int} {tgt : Nat} {x : Int32} (h : z_at y.2 pc = some (.tableswitch dflt lo hi offs, n, u, a, b, t)) (h1 : ¬ x.toInt < lo) (h2 : ¬ hi < x.toInt) (ho : offs[(x.toInt - lo).toNat]? = some off) (ht : (pc : Int) + off = (tgt : Int)) (k : Go X d y Post tgt L st S) : Go X d y Post pc L (.int x :: st) S := by
  intro p e s m args below meth c H locs ls C hP hS hl
  have kk := k p e s m args below meth c H locs ls C hP hS hl
  obtain ⟨ho', hx, hb, -⟩ := C
  obtain ⟨hd, hv⟩ := z_get ho' h
  exact lv_tableIn hx hb hd h1 h2 ho ht kk
theorem g_tout {dflt lo hi : Int} {offs : Array Int} {tgt : Nat} {x : Int32} (h : z_at y.2 pc = some (.tableswitch dflt lo hi offs, n, u, a, b, t)) (h1 : x.toInt < lo ∨ hi < x.toInt) (ht : (pc : Int) + dflt = (tgt : Int)) (k : Go X d y Post tgt L st S) : Go X d y Post pc L (.int x :: st) S := by
  intro p e s m args below meth c H locs ls C hP hS hl
  have kk := k p e s m args below meth c H locs ls C hP hS hl
  obtain ⟨ho', hx, hb, -⟩ := C
  obtain ⟨hd, hv⟩ := z_get ho' h
  exact lv_tableOut hx hb hd h1 ht kk
theorem g_lsw {dflt off : Int} {ps : Array (Int × Int)} {tgt : Nat} {x : Int32} (h : z_at y.2 pc = some (.lookupswitch dflt ps, n, u, a, b, t)) (hp : (ps.toList.zip (ps.toList.drop 1)).all (fun (a, next) => a.1 < next.1) = true) (ho : Op.lookupswitch.offset ps.toList dflt x.toInt = off) (ht : (pc : Int) + off = (tgt : Int)) (k : Go X d y Post tgt L st S) : Go X d y Post pc L (.int x :: st) S := by
  intro p e s m args below meth c H locs ls C hP hS hl
  have kk := k p e s m args below meth c H locs ls C hP hS hl
  obtain ⟨ho', hx, hb, -⟩ := C
  obtain ⟨hd, hv⟩ := z_get ho' h
  exact lv_lookup hx hb hd hp ho ht kk
end
