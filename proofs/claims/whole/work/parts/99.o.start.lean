/-! the law's start: both are made -/
theorem z_inst : ∀ (ci : Nat) (q : vw_C), zcl[ci]? = some q → Cond.instantiable q.1 q.2.2 ∈ z_T
  | 0, q, h => by cases h; exact z_wi_in (i := 119) (by decide +kernel)
  | 1, q, h => by cases h; exact z_wi_in (i := 261) (by decide +kernel)
  | 2, q, h => by cases h; exact z_wi_in (i := 245) (by decide +kernel)
  | 3, q, h => by cases h; exact z_wi_in (i := 177) (by decide +kernel)
  | 4, q, h => by cases h; exact z_wi_in (i := 102) (by decide +kernel)
  | 5, q, h => by cases h; exact z_wi_in (i := 155) (by decide +kernel)
  | 6, q, h => by cases h; exact z_wi_in (i := 228) (by decide +kernel)
  | 7, q, h => by cases h; exact z_wi_in (i := 205) (by decide +kernel)
  | 8, q, h => by cases h; exact z_wi_in (i := 94) (by decide +kernel)
  | 9, q, h => by cases h; exact z_wi_in (i := 935) (by decide +kernel)
  | n + 10, q, h => by simp [zcl] at h
theorem zNl_in : z_Nl.all (fun w => decide (w ∈ lw_tbl) && w.onTables) = true := by decide +kernel
theorem cNl_in : c_Nl.all (fun w => decide (w ∈ lw_tbl) && w.onTables) = true := by decide +kernel
theorem nl_at {ns : List Cond} {args : Array Value} {s : State} (h : ns.all (fun w => decide (w ∈ lw_tbl) && w.onTables) = true) (hts : ∀ w ∈ lw_tbl, w.before args s = true) : ∀ w ∈ ns, va_Nw w s := fun w hw => by
  have := List.all_eq_true.mp h w hw
  simp only [Bool.and_eq_true, decide_eq_true_eq] at this
  exact va_Nw.of this.2 (hts w this.1)
theorem mono_T {ty : FieldType} {t N : Nat} {f : Nat → Value} {A B : Nat → Prop} {U : State} {H : Heap} (hAB : ∀ a, B a → A a) (h : va_T ty t N f A U H) : va_T ty t N f B U H := by
  obtain ⟨cell, h1, h2, h3, h4, h5, h6, h7⟩ := h
  exact ⟨cell, h1, h2, h3, h4, h5, h6, fun q => h7 (hAB _ q)⟩
theorem mono_Z {C n d : String} {v : Value} {A B : Nat → Prop} {U : State} {H : Heap} (hAB : ∀ a, B a → A a) (h : va_Z C n d v A U H) : va_Z C n d v B U H := by
  obtain ⟨cf, kf, fi, f, a, cell, h1, h2, h3, h4, h5, h6, h7, h8⟩ := h
  exact ⟨cf, kf, fi, f, a, cell, h1, h2, h3, h4, h5, h6, h7, fun q => h8 (hAB _ q)⟩
theorem mono_O {E : String} {t : Nat} {A B : Nat → Prop} {U : State} {H : Heap} (hAB : ∀ a, B a → A a) (h : va_O E t A U H) : va_O E t B U H := by
  obtain ⟨cell, h1, h2, h3, h4⟩ := h
  exact ⟨cell, h1, h2, h3, fun q => h4 (hAB _ q)⟩
theorem mono_OF {o n d : String} {v : Value} {t : Nat} {A B : Nat → Prop} {U : State} {H : Heap} (hAB : ∀ a, B a → A a) (h : va_OF o n d v t A U H) : va_OF o n d v t B U H := by
  obtain ⟨cf, k, i, f, cell, h1, h2, h3, h4, h5, h6⟩ := h
  exact ⟨cf, k, i, f, cell, h1, h2, h3, h4, h5, fun q => h6 (hAB _ q)⟩
theorem mono_S {N : Nat} {len : List Nat} {byt : List (List Int32)} {adK adV : Nat → Nat} {A B : Nat → Prop} {U : State} {H : Heap} (hAB : ∀ a, B a → A a) (h : vk_S N len byt adK adV A U H) : vk_S N len byt adK adV B U H :=
  ⟨fun i hi => ⟨mono_O hAB (h.1 i hi).1, mono_OF hAB (h.1 i hi).2.1, mono_OF hAB (h.1 i hi).2.2.1, mono_T hAB (h.1 i hi).2.2.2⟩, h.2⟩
theorem w_ci {p : Program} {l : Launch} {e : Env} {s : State} {m : MethodId} {args : Array Value} {below : List Frame} {meth : Method} {c : Code} {H : Heap} {locs : List Loc} {ls : Array Slot} {cells slots : Nat} {Q : State → Prop} {D : va_G} {cA : ClassId} {pc idx i9 q : Nat} {y' : cD} {R' : Room} {e0 : va_E} {G' : va_W → Prop} {wr : va_W} {rest : List Value} {A : Nat → Prop}
    (hx : p.tables.exec = Jvm.exec) (hb : c.code = code) (hml : c.maxLocals = 4) (hown : s.vm.findClass "SignBookLaw" = some m.cls) (hts : ∀ u ∈ z_T, u.before args s = true) (hK : va_K D zcl [(cA, .int)] s) (hnw : c_nw s) (hsz : ls.size = 4) (hdg : decode code pc = .ok (.invokespecial idx, 3)) (hc : Cn l D cA R' y' [] q e0 G') (hv : z_wi i9 (.methodLink "SignBookLaw" idx y'.1.1) = true) (hna : 0 = y'.1.2.2.2.2.1) (hrf : R'.frames + 1 ≤ 2048) (hrl : 8 + (y'.1.2.2.1 + 11) + R'.locals ≤ 84000) (hcat : (rest.map fun v => v.category).sum ≤ 8) (hc9 : cells + R'.cells ≤ 600000) (hs9 : slots + R'.slots ≤ 7302250)
    (hP : va_P D zcl (wr ++ [(q, e0)]) H) (hD : va_D A (wr ++ [(q, e0)])) (hS : va_S A s.heap H locs) (hA : ∀ x, s.heap.size ≤ x → A x)
    (kk : ∀ (w : va_W) (H1 : Heap) (locs1 : List Loc), G' w → va_P D zcl (wr ++ w) H1 → va_D A (wr ++ w) → va_S A s.heap H1 locs1 → W p l e room_1 s m args below meth c H1 locs1 (cells + R'.cells) (slots + R'.slots) Q (F0 m (pc + 3) ls rest)) : W p l e room_1 s m args below meth c H locs cells slots Q (F0 m pc ls (.ref q :: rest)) := by
  obtain ⟨hdk, hM⟩ := hc
  obtain ⟨w1, w2, w3, w4, w5, w6, w7, w8, w9⟩ := c_dok_sp hdk
  have hlast : (wr ++ [(q, e0)])[wr.length]? = some (q, e0) := by simp
  have hP0 : va_P D zcl [(q, e0)] H := fun k x hx => by
    have hz : k < 1 := (List.getElem?_eq_some_iff.mp hx).1
    rw [show k = 0 by omega] at hx
    cases hx
    exact hP _ _ hlast
  have hF : ∀ x, va_A [(q, e0)] H.size x → A x := by
    intro x hx
    rcases hx with ⟨k, e2, hx⟩ | hx
    · have hz : k < 1 := (List.getElem?_eq_some_iff.mp hx).1
      rw [show k = 0 by omega] at hx
      cases hx
      exact hD.2 _ _ hlast
    · exact hA x (Nat.le_trans hS.1 hx)
  have hbl : FrameBlind (va_Pc [.ref q] (c_Pr D cA [(q, e0)] H.size)) := fun a U g mk z => by
    obtain ⟨q0, q1, qP, qK, qN⟩ := z
    exact ⟨q0, q1, qP, va_K.moved (u := U) (U := U.calling g mk a) (Vm.Alike.refl U.vm) qK, c_nw.same (u := U) (U := U.calling g mk a) rfl qN⟩
  have hpre : PreS s H (va_Pc [.ref q] (c_Pr D cA [(q, e0)] H.size)) [.ref q] := ⟨hbl, fun U hU hW => ⟨rfl, by rw [hU], by rw [hU]; exact hP0, va_K.moved hW.alike hK, hnw.warm hW⟩⟩
  have hG : GoodIn z_T (z_wd y'.1) := z_goodT (z_wd_in w1)
  have hww : z_wd y'.1 = Cond.code y'.1.1 y'.1.2.1 y'.1.2.2.1 none :: z_T := by rw [z_wd, w9]
  refine va_callv (va_runI (As := []) (rest := rest) (nL := 4) (cc := code) (Ts := z_T) (own := "SignBookLaw") (index := idx) ⟨hx, hb, hml, hown, hts⟩ (hM H.size) (cwI (bytes := y'.1.2.1) (maxL := y'.1.2.2.1) (ws' := z_T) y'.1.2.2.2.2.1 hts hG hww rfl rfl (hts _ w2) (hts _ (z_wi_in hv)) (hts _ w3) w8 ⟨w5, w6, w7⟩ ⟨hrf, hrl⟩) hpre rfl hna hsz rfl (lv_room hcat) hdg ⟨hc9, hs9⟩) hS (fun x _ hx => hF x hx) hF (fun w t H1 locs1 ht hvm hw hB hz1 hk1 hS1 => ?_)
  obtain ⟨hP1, hD1⟩ := hB
  rw [ht] at hP1
  obtain ⟨hP2, hD2⟩ := c_join hP hD hk1 hF hP1 hD1
  exact kk w H1 locs1 hw hP2 hD2 hS1
theorem ws_len (X : zX) (S : zS) : (z_ws X S).length = X.2.1.1 := by simp [z_ws]
