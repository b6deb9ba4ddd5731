/-! the law, from its entry -/
set_option maxHeartbeats 8000000 in
set_option maxRecDepth 100000 in
theorem whole_start {p : Program} {e : Env} {s : State} {m : MethodId} {below : List Frame} {meth : Method} {c : Code} (l : Launch) (hflags : l.flags = flags0) {b L : Nat} {xs : Nat → Int32} (hL : L ≤ 2560) (C0 : lw_At p s m meth c b L xs) : W p l e room_1 s m #[Value.ref b] below meth c s.heap [] 0 0 (lw_Z below #[Value.ref b] s) (entryFrame m ([Value.ref b] : List Value).toArray 4) := by
  obtain ⟨hx, hb, hr, hml, hown, hts, hX, hbl, hlocks, hgv⟩ := id C0
  have hT : ∀ u ∈ z_T, u.before #[Value.ref b] s = true := fun u hu => hts u (z_T_in hu)
  have hg := flat_of_before _ hgv
  obtain ⟨dC, dI, hKc⟩ : ∃ (dC : Nat → ClassId) (dI : Nat → Nat → Nat), ∀ (k : Nat) (q : vw_C), zcl[k]? = some q → u_Kn s q.1 q.2.1 q.2.2 (dC k) (dI k) := by
    have h : ∀ k : Nat, ∃ r : ClassId × (Nat → Nat), ∀ q, zcl[k]? = some q → u_Kn s q.1 q.2.1 q.2.2 r.1 r.2 := by
      intro k
      cases hz : zcl[k]? with
      | none => exact ⟨(m.cls, fun _ => 0), fun q hq => by cases hq⟩
      | some q =>
        obtain ⟨cC, iS, hh⟩ := u_known hT (z_cin k q hz) (hT _ (z_inst k q hz))
        exact ⟨(cC, iS), fun q' hq' => by cases hq'; exact hh⟩
    obtain ⟨r, hr⟩ := Classical.axiomOfChoice h
    exact ⟨fun k => (r k).1, fun k => (r k).2, fun k q hq => hr k q hq⟩
  obtain ⟨cA, kA, comp, a1, a2, a3⟩ := Cond.arrayClass_spec (hT (.arrayClass .int) (z_wi_in (i := 117) (by decide +kernel)))
  have hK : va_K (dC, dI) zcl [(cA, .int)] s := ⟨hKc, fun k q h => by
    have hz : k < 1 := (List.getElem?_eq_some_iff.mp h).1
    rw [show k = 0 by omega] at h
    cases h
    exact ⟨fun n z => ⟨fun k h => (by cases h), kA, a2, comp, a3⟩, a1⟩⟩
  generalize (dC, dI) = D at hK
  have hnl : ∀ a : Nat, a < s.heap.size → ¬ (fun q : Nat => s.heap.size ≤ q) a := fun a h => Nat.not_le.mpr h
  obtain ⟨t0, ev0, hT0⟩ := va_Tof (N := 5) (f := fun j => .int (kwT j)) (A := fun q : Nat => s.heap.size ≤ q) (by decide) (hg (.arrayOf (.static "SignBook" "KIND_WAYS" "[I") .int) (by decide +kernel)) (va_eqt (hg (.eq (.length (.static "SignBook" "KIND_WAYS" "[I")) (.int 5)) (by decide +kernel))) (fun j hj => by
    rcases (show j = 0 ∨ j = 1 ∨ j = 2 ∨ j = 3 ∨ j = 4 by omega) with rfl | rfl | rfl | rfl | rfl
    · exact va_eqt (hg (.eq (.elem (.static "SignBook" "KIND_WAYS" "[I") (.int 0)) (.int 1)) (by decide +kernel))
    · exact va_eqt (hg (.eq (.elem (.static "SignBook" "KIND_WAYS" "[I") (.int 1)) (.int 2)) (by decide +kernel))
    · exact va_eqt (hg (.eq (.elem (.static "SignBook" "KIND_WAYS" "[I") (.int 2)) (.int 3)) (by decide +kernel))
    · exact va_eqt (hg (.eq (.elem (.static "SignBook" "KIND_WAYS" "[I") (.int 3)) (.int 0)) (by decide +kernel))
    · exact va_eqt (hg (.eq (.elem (.static "SignBook" "KIND_WAYS" "[I") (.int 4)) (.int 1)) (by decide +kernel))) hnl
  obtain ⟨t1, ev1, hT1⟩ := va_Tof (N := 3) (f := fun j => .int (kcT j)) (A := fun q : Nat => s.heap.size ≤ q) (by decide) (hg (.arrayOf (.static "SignBook" "KINDS_THAT_COULD" "[I") .int) (by decide +kernel)) (va_eqt (hg (.eq (.length (.static "SignBook" "KINDS_THAT_COULD" "[I")) (.int 3)) (by decide +kernel))) (fun j hj => by
    rcases (show j = 0 ∨ j = 1 ∨ j = 2 by omega) with rfl | rfl | rfl
    · exact va_eqt (hg (.eq (.elem (.static "SignBook" "KINDS_THAT_COULD" "[I") (.int 0)) (.int 21)) (by decide +kernel))
    · exact va_eqt (hg (.eq (.elem (.static "SignBook" "KINDS_THAT_COULD" "[I") (.int 1)) (.int 6)) (by decide +kernel))
    · exact va_eqt (hg (.eq (.elem (.static "SignBook" "KINDS_THAT_COULD" "[I") (.int 2)) (.int 20)) (by decide +kernel))) hnl
  have hZ0 := va_Zref (A := fun q : Nat => s.heap.size ≤ q) (hts (.laysStatic "SignBook" "KIND_WAYS" "[I") (by decide +kernel)) (hts (.initialized "SignBook") (by decide +kernel)) ev0 hnl
  have hZ1 := va_Zref (A := fun q : Nat => s.heap.size ≤ q) (hts (.laysStatic "SignBook" "KINDS_THAT_COULD" "[I") (by decide +kernel)) (hts (.initialized "SignBook") (by decide +kernel)) ev1 hnl
  have hZ2 := va_Zof (A := fun q : Nat => s.heap.size ≤ q) (hts (.laysStatic "java/lang/String" "COMPACT_STRINGS" "Z") (by decide +kernel)) (hts (.initialized "java/lang/String") (by decide +kernel)) (va_eqt (hg (.eq (.static "java/lang/String" "COMPACT_STRINGS" "Z") (.int 1)) (by decide +kernel))) hnl
  obtain ⟨adK, adV, hSt, hev⟩ := vk_Sof (N := 1) (tm := fun _ => .string "SignBook$Reader" 80) (len := [5]) (byt := [[114, 97, 102, 104, 118]]) (A := fun q : Nat => s.heap.size ≤ q) (args := #[Value.ref b]) (s := s) (by decide) (fun i hi => hg _ (by decide +kernel)) (fun i hi => hg _ (by decide +kernel)) (fun i hi => hg _ (by decide +kernel)) (fun i hi => by
      rw [show i = 0 by omega]
      exact hg _ (by decide +kernel)) (fun i hi j hj => by
      have e0 : i = 0 := by omega
      subst e0
      rcases (show j = 0 ∨ j = 1 ∨ j = 2 ∨ j = 3 ∨ j = 4 by have : j < 5 := hj; omega) with rfl | rfl | rfl | rfl | rfl <;> exact hg _ (by decide +kernel)) (fun i j hi hj hne => absurd (show i = j by omega) hne) hnl
  have hcn : c_nw s := nl_at cNl_in hts
  have hR : vk_R "SignBook$Reader" 80 "rafhv" (adK 0) s := vk_R.of (A := #[Value.ref b]) (hts (.stringRef "SignBook$Reader" 80 "rafhv") (by decide +kernel)) (hev 0 (by decide))
  obtain ⟨ex, x50, x51, x52, x53⟩ : ∃ ex : Nat → Nat, ex 50 = t0 ∧ ex 51 = t1 ∧ ex 52 = adK 0 ∧ ex 53 = adV 0 := ⟨fun k => if k = 50 then t0 else if k = 51 then t1 else if k = 52 then adK 0 else adV 0, rfl, rfl, rfl, rfl⟩
  have hAA : ∀ q : Nat, s.heap.size ≤ q → (fun q : Nat => s.heap.size ≤ q) q := fun _ h => h
  have hS : va_S (fun q : Nat => s.heap.size ≤ q) s.heap s.heap [] := va_S.rf
  have hP : va_P D zcl [] s.heap := fun k q h => by simp at h
  have hD : va_D (fun q : Nat => s.heap.size ≤ q) [] := ⟨fun i j p q h => by simp at h, fun k q h => by simp at h⟩
  have hl := lv_entry ([.ref b]) (n := 4) (Nat.le_of_ble_eq_true rfl)
  rw [lg_entry_eq]
  generalize (lg_sl ([.ref b]) ++ List.replicate (4 - (lg_sl ([.ref b])).length) Slot.unset).toArray = ls at hl ⊢
  have hl : lv_has ls 4 [(0, .ref b)] := hl
  have d0 : decode code 0 = .ok (.new 7, 3) := c_get (n := 3) oki_law rfl
  have d3 : decode code 3 = .ok (.dup, 1) := c_get (n := 4) oki_law rfl
  have d4 : decode code 4 = .ok (.invokespecial 9, 3) := c_get (n := 7) oki_law rfl
  have d7 : decode code 7 = .ok (.astore_n 1, 1) := c_get (n := 8) oki_law rfl
  have d8 : decode code 8 = .ok (.new 10, 3) := c_get (n := 11) oki_law rfl
  have d11 : decode code 11 = .ok (.dup, 1) := c_get (n := 12) oki_law rfl
  have d12 : decode code 12 = .ok (.invokespecial 12, 3) := c_get (n := 15) oki_law rfl
  have d15 : decode code 15 = .ok (.astore_n 2, 1) := c_get (n := 16) oki_law rfl
  have d16 : decode code 16 = .ok (.iconst 0, 1) := c_get (n := 17) oki_law rfl
  have d17 : decode code 17 = .ok (.istore_n 3, 1) := c_get (n := 18) oki_law rfl
  refine va_new (ci := 8) (fs := [.null, .null, .null, .null, .null, .null, .null, .null, .null, .null, .null, .int 0, .int 0, .int 0]) (C := R_SB) (T := T_SB) (N := 14) hx hb hT (z_cin 8 _ rfl) (z_ty 8) (z_cty 8 _ rfl) hown (hT (.classLink "SignBookLaw" 7 "SignBook") (z_wi_in (i := 93) (by decide +kernel))) (hT _ (z_inst 8 _ rfl)) (hT (.initialized "SignBook") (z_wi_in (i := 74) (by decide +kernel))) hK hP hD hS hAA rfl (by decide +kernel) (by decide) (by decide) d0 (fun q0 H hP hD hS => ?_)
  refine lv_dup hx hb d3 rfl ?_
  refine w_ci (i9 := 95) (wr := []) hx hb hml hown hT hK hcn hl.1 d4 (n_SB q0) (by decide +kernel) rfl (by decide) (by decide) (Nat.le_of_ble_eq_true rfl) (by decide) (by decide) hP hD hS hAA (fun w H locs hw hP hD hS => ?_)
  obtain ⟨qs, f, hql, hq0, hf4, hws⟩ := hw
  have hws := hws ex
  subst hws
  have hX0 : c_adr qs ex 0 = q0 := by simp [c_adr, hq0]
  have hXe : ∀ k, 45 ≤ k → c_adr qs ex k = ex k := fun k hk => by simp [c_adr, List.getElem?_eq_none (show qs.length ≤ k by omega)]
  refine lv_astore_n (lv' := [(1, .ref q0), (0, .ref b)]) hx hb d7 rfl hl (by decide) rfl (fun ls hl => ?_)
  refine va_new (ci := 9) (fs := [.null, .int 0, .int 0, .int 0, .int 0, .int 0, .null, .null, .null, .null, .int 0, .int 0, .null, .null, .null, .null, .null, .null, .null, .null, .null, .null, .int 0, .null, .int 0, .int 0, .null, .int 0, .null, .null, .null, .int 0, .int 0, .null, .int 0, .null, .int 0, .int 0, .int 0, .null, .null, .null, .null, .long 0]) (C := R_M) (T := T_M) (N := 44) hx hb hT (z_cin 9 _ rfl) (z_ty 9) (z_cty 9 _ rfl) hown (hT (.classLink "SignBookLaw" 10 "SignBookModel") (z_wi_in (i := 934) (by decide +kernel))) (hT _ (z_inst 9 _ rfl)) (hT (.initialized "SignBookModel") (z_wi_in (i := 83) (by decide +kernel))) hK hP hD hS hAA rfl (by decide +kernel) (by decide) (by decide) d8 (fun q1 H hP hD hS => ?_)
  refine lv_dup hx hb d11 rfl ?_
  refine w_ci (i9 := 936) hx hb hml hown hT hK hcn hl.1 d12 (n_M q1) (by decide +kernel) rfl (by decide) (by decide) (Nat.le_of_ble_eq_true rfl) (by decide) (by decide) hP hD hS hAA (fun w H locs hw hP hD hS => ?_)
  obtain ⟨qm, hml2, hm0, hwm⟩ := hw
  have hwm := hwm ex
  subst hwm
  have hM0 : c_adr qm ex 0 = q1 := by simp [c_adr, hm0]
  have hMe : ∀ k, 27 ≤ k → c_adr qm ex k = ex k := fun k hk => by simp [c_adr, List.getElem?_eq_none (show qm.length ≤ k by omega)]
  refine lv_astore_n (lv' := [(2, .ref q1), (1, .ref q0), (0, .ref b)]) hx hb d15 rfl hl (by decide) rfl (fun ls hl => ?_)
  refine lv_iconst (v := 0) hx hb d16 (by decide) ?_
  refine lv_istore_n (lv' := [(3, .int 0), (2, .ref q1), (1, .ref q0), (0, .ref b)]) hx hb d17 rfl hl (by decide) rfl (fun ls hl => ?_)
  have hPD : ∀ (k : Nat), k < 45 → (([] ++ z_ws (l, wX, D, c_adr qs ex, cA) (s0X f)) ++ z_ws (l, wM, D, c_adr qm ex, cA) s0M)[k]? = some (c_adr qs ex k, z_en (l, wX, D, c_adr qs ex, cA) (s0X f) k) := fun k hk => by
    rw [List.nil_append, List.getElem?_append_left (by rw [ws_len]; exact hk)]
    exact z_ws_get hk
  have hPE : ∀ (k : Nat), k < 27 → (([] ++ z_ws (l, wX, D, c_adr qs ex, cA) (s0X f)) ++ z_ws (l, wM, D, c_adr qm ex, cA) s0M)[45 + k]? = some (c_adr qm ex k, z_en (l, wM, D, c_adr qm ex, cA) s0M k) := fun k hk => by
    rw [List.nil_append, List.getElem?_append_right (by rw [ws_len]; exact Nat.le_add_right _ _), ws_len]
    show (z_ws (l, wM, D, c_adr qm ex, cA) s0M)[45 + k - 45]? = _
    rw [Nat.add_sub_cancel_left]
    exact z_ws_get hk
  have hPX : va_P D zcl (z_ws (l, wX, D, c_adr qs ex, cA) (s0X f)) H := fun k q hk => by
    have hk2 : k < 45 := by
      have := (List.getElem?_eq_some_iff.mp hk).1
      rw [ws_len] at this
      exact this
    rw [z_ws_get (X := (l, wX, D, c_adr qs ex, cA)) hk2] at hk
    cases hk
    exact hP k _ (hPD k hk2)
  have hPM : va_P D zcl (z_ws (l, wM, D, c_adr qm ex, cA) s0M) H := fun k q hk => by
    have hk2 : k < 27 := by
      have := (List.getElem?_eq_some_iff.mp hk).1
      rw [ws_len] at this
      exact this
    rw [z_ws_get (X := (l, wM, D, c_adr qm ex, cA)) hk2] at hk
    cases hk
    exact hP (45 + k) _ (hPE k hk2)
  have hgX : ∀ i, i < 45 → s.heap.size ≤ c_adr qs ex i := fun i hi => hD.2 i _ (hPD i hi)
  have hgM : ∀ i, i < 27 → s.heap.size ≤ c_adr qm ex i := fun i hi => hD.2 (45 + i) _ (hPE i hi)
  have hdis : ∀ i j, i < 45 → j < 27 → c_adr qs ex i ≠ c_adr qm ex j := fun i j hi hj he => by
    have := hD.1 i (45 + j) _ _ (hPD i hi) (hPE j hj) he
    omega
  have hapX : z_ap (l, wX, D, c_adr qs ex, cA) := fun i j hi hj he => hD.1 i j _ _ (hPD i hi) (hPD j hj) he
  have hapM : z_ap (l, wM, D, c_adr qm ex, cA) := fun i j hi hj he => by
    have := hD.1 (45 + i) (45 + j) _ _ (hPE i hi) (hPE j hj) he
    omega
  have hsub : ∀ a, z_A (l, wX, D, c_adr qs ex, cA) a → s.heap.size ≤ a := fun a ha => by
    obtain ⟨k, hk, rfl⟩ := ha
    exact hgX k hk
  have hstX : z_st (l, wX, D, c_adr qs ex, cA) s s.heap := by
    refine ⟨fun q hq => ?_, ?_, mono_Z hsub hZ2⟩
    · have hq2 : q ∈ [("SignBook", "KIND_WAYS", 50, 5, kwT), ("SignBook", "KINDS_THAT_COULD", 51, 3, kcT)] := hq
      simp only [List.mem_cons, List.not_mem_nil, or_false] at hq2
      rcases hq2 with rfl | rfl
      · refine ⟨mono_Z hsub ?_, mono_T hsub ?_⟩
        · show va_Z "SignBook" "KIND_WAYS" "[I" (.ref (c_adr qs ex 50)) _ s s.heap
          rw [hXe 50 (by decide), x50]; exact hZ0
        · show va_T .int (c_adr qs ex 50) 5 _ _ s s.heap
          rw [hXe 50 (by decide), x50]; exact hT0
      · refine ⟨mono_Z hsub ?_, mono_T hsub ?_⟩
        · show va_Z "SignBook" "KINDS_THAT_COULD" "[I" (.ref (c_adr qs ex 51)) _ s s.heap
          rw [hXe 51 (by decide), x51]; exact hZ1
        · show va_T .int (c_adr qs ex 51) 3 _ _ s s.heap
          rw [hXe 51 (by decide), x51]; exact hT1
    · show vk_S 1 [5] [[114, 97, 102, 104, 118]] (fun _ => c_adr qs ex 52) (fun _ => c_adr qs ex 53) _ s s.heap
      rw [hXe 52 (by decide), hXe 53 (by decide), x52, x53]
      refine mono_S hsub ⟨fun i hi => ?_, fun i j hi hj _ => by omega⟩
      have := hSt.1 i hi
      rw [show i = 0 by omega] at this ⊢
      exact this
  have hstM : z_st (l, wM, D, c_adr qm ex, cA) s s.heap := ⟨fun q hq => absurd (show q ∈ ([] : List zQ) from hq) (by simp), trivial⟩
  have hnwX : z_nw (c_adr qs ex) s := ⟨nl_at zNl_in hts, by rw [hXe 52 (by decide), x52]; exact hR⟩
  have hnwM : z_nw (c_adr qm ex) s := ⟨nl_at zNl_in hts, by rw [hMe 52 (by decide), x52]; exact hR⟩
  have F : lw_F p l s m meth c b L xs D cA (c_adr qs ex) (c_adr qm ex) := ⟨C0, ⟨hK, hstX, hapX, wX_ok, hnwX, hgX, hdis⟩, ⟨hK, hstM, hapM, wM_ok, hnwM, hgM, fun i j hi hj he => hdis j i hj hi he.symm⟩⟩
  have hlw : lw_L b (c_adr qs ex) (c_adr qm ex) 0 ls := by
    unfold lw_L
    rw [hX0, hM0]
    exact lv_sub hl [3, 2, 1, 0] rfl
  exact law_loop hL F (L + 1) 0 (Nat.zero_le L) (by omega) (s0X f) s0M m0 (inv0X hf4) inv0M ok_0 (Nat.le_refl 0) ls hlw H locs hPX hPM hS
set_option maxHeartbeats 4000000 in
theorem lw_walk (l : Launch) (hflags : l.flags = flags0) (b : Addr) (xs : List Int32) : MetFree l x (headSpec (Jvm.Cond.code x code maxLocals ret :: tables_1) room_1) (lw_P b xs) (fun _ _ _ _ _ => True) lw_Q := by
  refine MetFree.of_bodyS (code := code) (maxLocals := maxLocals) (ret := ret) (by decide) ?_ ?_
  · intro args s m h hn
    obtain ⟨meth, c, h1, h2, h3, h4, h5, h6, -, -⟩ := Cond.code_spec hn (atoms_spec (ws := Jvm.Cond.code x code maxLocals ret :: tables_1) h _ List.mem_cons_self)
    exact ⟨meth, c, h1, h2, h3, h4, h5, h6⟩
  · intro p e s m args below meth c s₁ B hml0 hP _
    obtain ⟨rfl, hx, hbd, hgv⟩ := hP
    obtain ⟨scr, harrAt, hlist, hof, hsmall⟩ := hx
    obtain ⟨hcb, hkn, -, -⟩ := State.arrayAt?_spec harrAt
    have hown : s.vm.findClass R_law = some m.cls := findClass_of_methodNamed B.named
    have hts0 : ∀ c ∈ (Jvm.Cond.code x code maxLocals ret :: tables_1), c.before #[Value.ref b] s = true := atoms_spec (ws := Jvm.Cond.code x code maxLocals ret :: tables_1) B.pre
    have hts : ∀ w ∈ lw_tbl, w.before #[Value.ref b] s = true := k2_hts_sels lw_privs (fun w hw => hts0 w (List.mem_cons_of_mem _ hw)) lw_privs_ok
    have hml : c.maxLocals = 4 := B.maxLocals_eq (hts0 _ List.mem_cons_self)
    have X₀ : Stand p l e room_1 s m #[Value.ref b] below meth c s₁ [] 0 0 := Stand.of_body B
    have hh0 : s₁.heap = s.heap := by rw [B.state]; rfl
    have hsz : scr.slots.size = xs.length := by rw [← Array.length_toList, hlist, List.length_map]
    have hval : ∀ j : Nat, j < xs.length → scr.slots[j]? = some (.int (xs.getD j 0)) := fun j hj => by
      rw [← Array.getElem?_toList, hlist]
      simp [hj]
    have hbl : b < s.heap.size := (Array.getElem?_eq_some_iff.mp hcb).1
    have hX : va_X b xs.length (fun j => xs.getD j 0) s s.heap := ⟨scr, hcb, hof, hkn, hsz, hval⟩
    have K : W p l e room_1 s m #[Value.ref b] below meth c s₁.heap [] 0 0 (lw_Z below #[Value.ref b] s) (entryFrame m ([Value.ref b] : List Value).toArray 4) := by
      rw [hh0]
      exact whole_start l hflags hbd ⟨B.exec, B.bytes, B.returns, hml, hown, hts, hX, hbl, B.notSynchronized, hgv⟩
    obtain ⟨t, a1, o, b1, b2, b3⟩ := K s₁ rfl X₀
    exact ⟨t, o, a1, b1, b2, b3⟩
theorem lw_pre_spec {args : Array Value} {s : State} (h : (Jvm.Cond.and given_1 narrow_1).before args s = true) (hr : rest_1_c.before args s = true) : ∃ (b : Addr) (xs : List Int32), lw_P b xs args s := by
  have hs := flat_of_before _ h
  have hq := flat_of_before _ hr
  have hc : (Cond.count 1).before args s = true := hs _ (by decide +kernel)
  have harr : (Cond.arrayOf (.arg 0) .int).before args s = true := hs _ (by decide +kernel)
  have hle : (Cond.le (.length (.arg 0)) (.int 2560)).before args s = true := hs _ (by decide +kernel)
  have hlen : (Cond.isInt (.length (.arg 0))).before args s = true := hq _ (by decide +kernel)
  have hall : (Cond.all (.arg 0) (.isInt (.elem (.arg 0) (.index 0)))).before args s = true := hq _ (by decide +kernel)
  obtain ⟨b, xs, hb, hx⟩ := State.ints_of_pre rfl harr hlen hall
  have hsm : xs.length < 2 ^ 31 := hx.choose_spec.2.2.2
  have hev : (Term.length (.arg 0)).eval args s none [] s = some (.int xs.length.toInt32) := hx.length_eval hb
  have hv := Cond.le_ints hev (show (Term.int 2560).eval args s none [] s = some (.int 2560) from rfl)
  have hd : xs.length.toInt32 ≤ 2560 := by
    simpa [Cond.before, Cond.holds, hv] using hle
  have hN : xs.length ≤ 2560 := (Int32.ofNat_le_ofNat hsm (by decide)).mp (show Int32.ofNat xs.length ≤ Int32.ofNat 2560 from hd)
  exact ⟨b, xs, Cond.one_arg hc (show args[0]? = some (.ref b) from hb), hx, hN, h⟩
theorem lw_comes (l : Launch) (hflags : l.flags = flags0) : Comes l x (Jvm.Cond.code x code maxLocals ret :: tables_1) room_1 (fun tb e args s => Calls_1 tb e args s ∧ rest_1 tb e args s ∧ Pre_1 tb e args s)
    (fun _ _ args s o t => lw_Q args s o t) := by
  intro p e ha hc hk s m args below hf hfit hheap happ hpre
  obtain ⟨b, xs, hP⟩ := lw_pre_spec hpre.2.2 hpre.2.1
  obtain ⟨k, o, h1, h2, h3, hQ⟩ := lw_walk l hflags b xs p e ha hc hk s m args below hf ((Spec.applies_iff_loose hf).mp happ).1 hP trivial
  exact ⟨k, o, h1, h2, h3, hQ⟩
theorem lw_frame {s t : State} {o : Outcome} {args : Array Value} (h : Framed s o t [] 600000 7302250) :
    Framed s o t (fieldLocs frame_1_writes args s ++ arrayLocs frame_1_arrays args s ++ staticLocs frame_1_statics s) 600000 7302250 := h
theorem lw_limb (L : Cond) (hL : ∀ (args : Array Value) (s t : State), L.after args s (.returned (some (.int 1))) t = true) :
    ArmFor flags0 classFile x code maxLocals ret World_1 tables_1 room_1 Calls_1 rest_1 Pre_1
      (fun tb e a s o t => postC L tb e a s o t ∧ Framed s o t (fieldLocs frame_1_writes a s ++ arrayLocs frame_1_arrays a s ++ staticLocs frame_1_statics s) 600000 7302250) := by
  intro l hflags _ _ p e ha hc hk s m args below hf hfit hheap happ hpre
  obtain ⟨k, o, h1, h2, h3, rfl, hF⟩ := lw_comes l hflags p e ha hc hk s m args below hf hfit hheap happ hpre
  exact ⟨k, _, h1, h2, h3, hL args s _, lw_frame hF⟩
theorem i_vc : Claimed_1_1 ∧ Claimed_1_2 := ⟨lw_limb limb_1_1 (fun args s t => by simp [limb_1_1, Cond.after, Cond.holds, Cond.value]), lw_limb limb_1_2 (fun args s t => Cond.after_iff.mpr (by
  first | (rw [show limb_1_2 = Cond.eq .result (.int 1) from rfl, Cond.eq_ints (x := 1) (y := 1) rfl rfl]; simp; done) | (simp [limb_1_2, Cond.value, Term.eval]; done)))⟩
