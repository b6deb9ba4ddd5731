/-! what is put into a type keeps its form; lift, stores -/
theorem fin_cat {P : Nat → Nat} : ∀ (t : List Nat) (a b : Nat) (u : List Nat), finb P a t = true → skipL P a t = t.length → finb P (a + b) (t ++ u) = finb P b u ∧ skipL P (a + b) (t ++ u) = t.length + skipL P b u
  | [], 0, b, u, _, _ => by simp
  | [], a + 1, b, u, h, _ => by simp [finb] at h
  | s :: t, 0, b, u, _, h => by simp [skipL] at h
  | s :: t, a + 1, b, u, h1, h2 => by
    rw [finb] at h1
    rw [skipL, List.length_cons] at h2
    obtain ⟨g1, g2⟩ := fin_cat t (a + P s) b u h1 (by omega)
    rw [show a + 1 + b = (a + b) + 1 by omega, List.cons_append, finb, skipL, show a + b + P s = a + P s + b by omega, g1, g2, List.length_cons]
    exact ⟨rfl, by omega⟩
theorem ct_cat {B : Bk} {t : List Nat} (h : CT B t) (o : Nat) (u : List Nat) : finb (bP B) (o + 1) (t ++ u) = finb (bP B) o u ∧ skipL (bP B) (o + 1) (t ++ u) = t.length + skipL (bP B) o u := by
  have := fin_cat t 1 o u h.2.1 h.2.2
  rw [show o + 1 = 1 + o by omega]
  exact this
theorem sub_ok {B : Bk} (hW : WfB B) {c : Nat} {f g : List Nat} (hf : 0 < bP B c → CT B f) (hg : 1 < bP B c → CT B g) : ∀ (t : List Nat) (o : Nat), finb (bP B) o t = true → skipL (bP B) o t = t.length → (∀ s ∈ t, sgOk B c s) → finb (bP B) o (sub t f g) = true ∧ skipL (bP B) o (sub t f g) = (sub t f g).length ∧ ∀ s ∈ sub t f g, s < bN B
  | [], 0, _, _, _ => by simp [sub, finb, skipL]
  | [], o + 1, h, _, _ => by simp [finb] at h
  | s :: t, 0, _, h, _ => by simp [skipL] at h
  | s :: t, o + 1, h1, h2, h3 => by
    rw [finb] at h1
    rw [skipL, List.length_cons] at h2
    have h4 := hW.1
    obtain ⟨g1, g2, g3⟩ := sub_ok hW hf hg t (o + bP B s) h1 (by omega) (fun y hy => h3 y (List.mem_cons_of_mem _ hy))
    have key : ∀ u, CT B u → bP B s = 0 → put s f g = u → finb (bP B) (o + 1) (sub (s :: t) f g) = true ∧ skipL (bP B) (o + 1) (sub (s :: t) f g) = (sub (s :: t) f g).length ∧ ∀ y ∈ sub (s :: t) f g, y < bN B := by
      intro u hu h0 hp
      rw [h0, Nat.add_zero] at g1 g2
      obtain ⟨k1, k2⟩ := ct_cat hu o (sub t f g)
      rw [sub, hp, k1, k2, g1, g2, List.length_append]
      refine ⟨rfl, rfl, fun y hy => ?_⟩
      rcases List.mem_append.mp hy with q | q
      · exact hu.1 y q
      · exact g3 y q
    rcases h3 s List.mem_cons_self with q | ⟨q, q2⟩ | ⟨q, q2⟩
    · have hp : put s f g = [s] := by unfold put; rw [if_neg (by omega), if_neg (by omega)]
      rw [sub, hp, List.singleton_append, finb, skipL, g1, g2, List.length_cons]
      refine ⟨rfl, by omega, fun y hy => ?_⟩
      rcases List.mem_cons.mp hy with e | e
      · rw [e]; exact q
      · exact g3 y e
    · exact key f (hf q2) (hW.2.2.1 s (by omega)).1 (by unfold put; rw [if_pos q])
    · exact key g (hg q2) (hW.2.2.1 s (by omega)).1 (by unfold put; rw [if_neg (by omega), if_pos q])
theorem mTy_ct {m : Mt} (hW : WfB (mB m)) {p s : Nat} (hc : CT (mB m) (mS m s)) (ht : TyOk (mB m) (ahd (mS m s)) (bT (mB m) p)) : CT (mB m) (mTy m p s) := by
  obtain ⟨h1, h2, h3⟩ := sub_ok hW (c := ahd (mS m s)) (f := arg (bP (mB m)) (mS m s) 0) (g := arg (bP (mB m)) (mS m s) 1) (fun h => (arg_pos hW hc h).1) (fun h => (arg_pos hW hc h).1) (bT (mB m) p) 1 ht.1 ht.2.1 ht.2.2
  exact ⟨h3, h1, h2⟩
section
variable {l : Launch} {D : va_G} {ad : Nat → Nat} {cA : ClassId} {x y z w : Int32} {S S' : zS} {m : Mt} {B : Bk} {kd : Nat → Nat} {r q n : Nat}
abbrev lfOk (m : Mt) (x z : Int32) : Prop := 0 < gZ m x ∧ (0 ≤ z ∧ z < 8)
def lfB (m : Mt) (x : Int32) : List Nat := bT (mB m) (12 + ahd (mS m x.toNatClampNeg))
def lfTy (m : Mt) (x : Int32) : List Nat := mTy m (12 + ahd (mS m x.toNatClampNeg)) x.toNatClampNeg
def v_lift (m : Mt) (x z : Int32) : Int32 := if lfOk m x z then (if lfB m x = [] then -1 else if (lfTy m x).length ≤ 15 then nI (lfTy m x).length else -104) else -101
def m_lift (m : Mt) (x z : Int32) : Mt := if lfOk m x z then (if lfB m x = [] then m else if (lfTy m x).length ≤ 15 then m_slot m z.toNatClampNeg (lfTy m x) else m) else m
theorem x_lift (h : InvX S m) (hm : MOk m) : Sp (l, wX, D, ad, cA) 4 m_SB_lift [.ref 0, .int x, .int z] S (fun v S' => v = .int (v_lift m x z) ∧ InvX S' (m_lift m x z)) := by
  have hZ := gZ_eq (m := m) h.2.2.2.1 x
  unfold v_lift m_lift
  refine Sp.of dk_SB_lift ok_SB_lift rfl (g_ld rfl rfl rfl (g_ld rfl rfl rfl (g_cv rfl (s_isFilled) (by omega) rfl rfl rfl rfl rfl rfl rfl rfl rfl (z_k1 (g_if rfl rfl (fun zc5 => (g_c rfl rfl (g_ri rfl rfl rfl ?_))) (fun zc5 => (g_ld rfl rfl rfl (g_cs rfl (s_isSlot) (by omega) rfl rfl rfl rfl rfl rfl (z_k1 (g_if rfl rfl (fun zc12 => ?_) (fun zc12 => (g_c rfl rfl (g_ri rfl rfl rfl ?_)))))))))))))
  · have a := b2_0.mp zc5
    rw [hZ] at a
    have b : ¬ lfOk m x z := fun q => a q.1
    rw [if_neg b, if_neg b]; exact ⟨rfl, h⟩
  · have a := b2_n.mp zc5
    rw [hZ] at a
    obtain ⟨hC, s, c, hs, e1, e2, hct, h15, e4, e5, hcb, hc4⟩ := gC_eq h hm a
    have gz := b2_n.mp zc12
    have b : lfOk m x z := ⟨a, gz⟩
    rw [if_pos b, if_pos b]
    obtain ⟨z8, hz8, ez, ez2⟩ := in_cl (n := 8) gz.1 gz.2
    have hab := bk_abv (S := S) h.2.2.1 hm.2.2.1 hc4
    have hfs : f_sig S 18 x 0 = nI c := hC.trans e4
    have hB' : lfB m x = bT (mB m) (12 + c) := by unfold lfB; rw [e2, e5]
    have hT' : lfTy m x = mTy m (12 + c) s := by unfold lfTy; rw [e2, e5]
    rw [hB', hT', ez2]
    refine (g_ld rfl rfl rfl (g_gr rfl rfl rfl rfl rfl (g_ld rfl rfl rfl (g_cv rfl (s_classIn (by decide)) (by omega) rfl rfl rfl rfl rfl rfl rfl rfl rfl (z_k1 (g_st rfl rfl rfl rfl rfl (g_ld rfl rfl rfl (g_gr rfl rfl rfl rfl rfl (g_ld rfl rfl rfl (g_cv rfl (s_classAbove (by decide)) (by omega) rfl rfl rfl rfl rfl rfl rfl rfl rfl (z_k1 (g_c rfl rfl (g_if rfl rfl (fun zc36 => ?_) (fun zc36 => (g_c rfl rfl (g_ri rfl rfl rfl ?_))))))))))))))))
    · rw [hfs, hab] at zc36
      have hne : ¬ bT (mB m) (12 + c) = [] := fun e => by rw [e] at zc36; exact zc36 rfl
      rw [if_neg hne, if_neg hne]
      have hok : AbOk (mB m) c (bT (mB m) (12 + c)) := by
        rcases hm.2.2.1.2.2.2.2.2 c hc4 with e | e
        · exact absurd e hne
        · exact e
      have hp16 : 12 + c < 16 := by omega
      have hsg : ∀ y ∈ bT (mB m) (12 + c), sgOk (mB m) (ahd (mS m s)) y := by rw [e5]; exact hok.2.1.2.2
      have hxp : 12 + f_sig S 18 x 0 = nI (12 + c) := by rw [hfs]; exact nI_add 12 c
      refine (g_ld rfl rfl rfl (g_c rfl rfl (g_ld rfl rfl rfl (g_bin rfl rfl (g_ld rfl rfl rfl (g_cv rfl (s_make h.2.2.1 hm.2.2.1 (h.sl hm) (p := 12 + c) hp16 hs hct hsg hxp e1) (by omega) rfl rfl rfl rfl rfl rfl rfl rfl rfl (fun zv47 zS47 zh47 => ?_)))))))
      rcases zh47 with ⟨⟨q1, rfl, zh47r⟩ | ⟨q1, rfl⟩, hA1⟩
      · have hSl2 : SlX zS47 (mS m) := (h.sl hm).ag (hA1.1 _ (by decide)) (hA1.1 _ (by decide))
        refine (g_if rfl rfl (fun zc50 => (g_c rfl rfl (g_ri rfl rfl rfl ?_))) (fun zc50 => (g_ld rfl rfl rfl (g_gr rfl rfl rfl rfl rfl (g_ld rfl rfl rfl (g_ld rfl rfl rfl (g_gr rfl rfl rfl rfl rfl (g_cv rfl (s_put hSl2 hz8 zh47r ez) (by omega) rfl rfl rfl rfl rfl rfl rfl rfl rfl (fun zv62 zS62 zh62 => ?_)))))))))
        · exact absurd zc50 (by decide)
        · obtain ⟨rfl, hA2, hS2⟩ := zh62
          refine (g_go rfl (g_ri rfl rfl rfl ?_))
          have hL : (mTy m (12 + c) s).length ≤ 15 := q1
          rw [if_pos hL, if_pos hL]
          refine ⟨rfl, ?_⟩
          exact h.slot (Ag.tr (hA1.mono (by simp +contextual)) (hA2.mono (by simp +contextual))) hS2
      · have hL : ¬ (mTy m (12 + c) s).length ≤ 15 := Nat.not_le.mpr q1
        refine (g_if rfl rfl (fun zc50 => (g_c rfl rfl (g_ri rfl rfl rfl ?_))) (fun zc50 => ?_))
        · rw [if_neg hL, if_neg hL]
          exact ⟨rfl, h.scr (fun k hk _ => hA1.1 k (by simp; omega)) (fun k hk => by rw [hA1.1 41 (by decide)]; exact h.2.2.2.2.2.2.1 k hk)⟩
        · exact absurd rfl zc50
    · rw [hfs, hab] at zc36
      have c0 := Decidable.not_not.mp zc36
      have he : bT (mB m) (12 + c) = [] := by
        rcases hm.2.2.1.2.2.2.2.2 c hc4 with e | e
        · exact e
        · obtain ⟨-, -, a, as, e', ha, -⟩ := e
          rw [e'] at c0
          have c1 : nI a = -1 := c0
          have h3 : a = 0 ∨ a = 1 ∨ a = 2 := by omega
          rcases h3 with e | e | e <;> rw [e] at c1 <;> exact absurd c1 (by decide)
      rw [if_pos he, if_pos he]
      exact ⟨rfl, h⟩
  · have c := b2_0.mp (Decidable.not_not.mp zc12)
    have b : ¬ lfOk m x z := fun q => c q.2
    rw [if_neg b, if_neg b]; exact ⟨rfl, h⟩
abbrev stOk (m : Mt) (x y z : Int32) : Prop := 0 < gZ m x ∧ 0 < gZ m y ∧ (0 ≤ z ∧ z < gM m (gC m y))
noncomputable def v_stores (m : Mt) (x y z : Int32) : Int32 := if stOk m x y z then (if f_kw (gK m (gC m y) z) &&& 2 = 0 then -1 else if (rdTy m y z).length ≤ 15 then b2 (sF (mB m) (wy (mB m) (mK m)) 16 (mS m x.toNatClampNeg) (rdTy m y z) = true) else -104) else -101
theorem x_stores (h : InvX S m) (hm : MOk m) : Sp (l, wX, D, ad, cA) 58 m_SB_stores [.ref 0, .int x, .int y, .int z] S (fun v S' => v = .int (v_stores m x y z) ∧ InvX S' m) := by
  have hZ := gZ_eq (m := m) h.2.2.2.1 x
  have hZ' := gZ_eq (m := m) h.2.2.2.1 y
  unfold v_stores
  refine Sp.of dk_SB_stores ok_SB_stores rfl (g_ld rfl rfl rfl (g_ld rfl rfl rfl (g_cv rfl (s_isFilled) (by omega) rfl rfl rfl rfl rfl rfl rfl rfl rfl (z_k1 (g_if rfl rfl (fun zc5 => (g_c rfl rfl (g_ri rfl rfl rfl ?_))) (fun zc5 => (g_ld rfl rfl rfl (g_ld rfl rfl rfl (g_cv rfl (s_isFilled) (by omega) rfl rfl rfl rfl rfl rfl rfl rfl rfl (z_k1 (g_if rfl rfl (fun zc13 => (g_c rfl rfl (g_ri rfl rfl rfl ?_))) (fun zc13 => (g_ld rfl rfl rfl (g_gr rfl rfl rfl rfl rfl (g_ld rfl rfl rfl (g_gr rfl rfl rfl rfl rfl (g_ld rfl rfl rfl (g_cv rfl (s_classIn (by decide)) (by omega) rfl rfl rfl rfl rfl rfl rfl rfl rfl (z_k1 (g_ld rfl rfl rfl (g_cv rfl (s_hasMember (by decide)) (by omega) rfl rfl rfl rfl rfl rfl rfl rfl rfl (z_k1 (g_if rfl rfl (fun zc32 => ?_) (fun zc32 => (g_c rfl rfl (g_ri rfl rfl rfl ?_))))))))))))))))))))))))))
  · have a := b2_0.mp zc5
    rw [hZ] at a
    have b : ¬ stOk m x y z := fun q => a q.1
    rw [if_neg b]; exact ⟨rfl, h⟩
  · have a := b2_0.mp zc13
    rw [hZ'] at a
    have b : ¬ stOk m x y z := fun q => a q.2.1
    rw [if_neg b]; exact ⟨rfl, h⟩
  · have a := b2_n.mp zc5
    rw [hZ] at a
    have a' := b2_n.mp zc13
    rw [hZ'] at a'
    obtain ⟨s, hs, e1, e2, hct, h15, -⟩ := gZ_pos hm a
    obtain ⟨hC, s', c, hs', e1', e2', hct', h15', e4, e5, hcb, hc4⟩ := gC_eq h hm a'
    have g := b2_n.mp zc32
    rw [hC, gM_eq (m := m) h.2.2.1] at g
    have b : stOk m x y z := ⟨a, a', g⟩
    rw [if_pos b]
    obtain ⟨c', j, hc', hj, f1, f2, hp, hp12, hcn⟩ := mem_in hm g
    have ec : c = c' := eq_n (e4.symm.trans f1)
    subst ec
    have hxp : 3 * f_sig S 18 y 0 + z = nI (3 * c + j) := by rw [hC]; exact hp
    have hp16 : 3 * c + j < 16 := by omega
    have hj3 : j < 3 := by have := hm.2.2.1.2.2.2.1 c; omega
    have hty := (hm.2.2.1.2.2.2.2.1 c j hc4 hj3).1 hj
    have hsg : ∀ y ∈ bT (mB m) (3 * c + j), sgOk (mB m) (ahd (mS m s')) y := by rw [e5]; exact hty.2.2
    have hrd : rdTy m y z = mTy m (3 * c + j) s' := by unfold rdTy; rw [hp, nI_clamp (by omega), e2']
    have hcU : CT (mB m) (mTy m (3 * c + j) s') := mTy_ct hm.2.2.1 hct' (by rw [e5]; exact hty)
    rw [hrd, e2]
    have ha : s < 8 ∧ x = nI s := ⟨hs, e1⟩
    refine (g_ld rfl rfl rfl (g_gr rfl rfl rfl rfl rfl (g_ld rfl rfl rfl (g_cv rfl (s_classIn (by decide)) (by omega) rfl rfl rfl rfl rfl rfl rfl rfl rfl (z_k1 (g_ld rfl rfl rfl (g_cs rfl (s_placeOf) (by omega) rfl rfl rfl rfl rfl rfl (z_k1 (g_st rfl rfl rfl rfl rfl (g_ld rfl rfl rfl (g_gr rfl rfl rfl rfl rfl (g_ld rfl rfl rfl (g_cv rfl (s_kindOf (by decide)) (by omega) rfl rfl rfl rfl rfl rfl rfl rfl rfl (z_k1 (g_cs rfl (s_kindWays) (by omega) rfl rfl rfl rfl rfl rfl (z_k1 (g_c rfl rfl (g_bin rfl rfl (g_if rfl rfl (fun zc66 => ?_) (fun zc66 => (g_c rfl rfl (g_ri rfl rfl rfl ?_))))))))))))))))))))))
    · rw [hC, gK_eq (m := m) h.2.2.2.1] at zc66
      rw [if_neg zc66]
      refine (g_ld rfl rfl rfl (g_gr rfl rfl rfl rfl rfl (g_ld rfl rfl rfl (g_gr rfl rfl rfl rfl rfl (g_ld rfl rfl rfl (g_cv rfl (s_takeSlot (h.sl hm) ha.1 ha.2) (by omega) rfl rfl rfl rfl rfl rfl rfl rfl rfl (fun zv80 zS80 zh80 => ?_)))))))
      obtain ⟨rfl, zh80r, hA1⟩ := zh80
      refine (g_ld rfl rfl rfl (g_gr rfl rfl rfl rfl rfl (g_ld rfl rfl rfl (g_gr rfl rfl rfl rfl rfl (g_cv rfl (s_layOne (Or.inl rfl) zh80r) (by omega) rfl rfl rfl rfl rfl rfl rfl rfl rfl (fun zv91 zS91 zh91 => ?_))))))
      obtain ⟨rfl, hA2, hAt2, hout2⟩ := zh91
      have hsl3 : SlX zS91 (mS m) := (h.sl hm).ag (by rw [hA2.1 _ (by decide), hA1.1 _ (by decide)]) (by rw [hA2.1 _ (by decide), hA1.1 _ (by decide)])
      have hB3 : BkX zS91 3 (mB m) := h.2.2.1.ag (fun k h3 h9 => by rw [hA2.1 k (by simp; omega), hA1.1 k (by simp; omega)])
      refine (g_ld rfl rfl rfl (g_ld rfl rfl rfl (g_ld rfl rfl rfl (g_cv rfl (s_make hB3 hm.2.2.1 hsl3 (p := 3 * c + j) hp16 hs' hct' hsg hxp e1') (by omega) rfl rfl rfl rfl rfl rfl rfl rfl rfl (fun zv98 zS98 zh98 => ?_)))))
      rcases zh98 with ⟨⟨q1, rfl, hr4⟩ | ⟨q1, rfl⟩, hA4⟩
      · have hL : (mTy m (3 * c + j) s').length ≤ 15 := q1
        rw [if_pos hL]
        refine (g_if rfl rfl (fun zc101 => (g_ld rfl rfl rfl (g_gr rfl rfl rfl rfl rfl (g_ld rfl rfl rfl (g_gr rfl rfl rfl rfl rfl (g_cv rfl (s_layOther (Or.inl rfl) hr4) (by omega) rfl rfl rfl rfl rfl rfl rfl rfl rfl (fun zv115 zS115 zh115 => ?_))))))) (fun zc101 => (g_c rfl rfl (g_ri rfl rfl rfl ?_))))
        · obtain ⟨rfl, hA5, hAt5, hout5⟩ := zh115
          have k41 : ∀ j, j < 19 → zS115.1 41 j = zS91.1 41 j := fun j hj => by rw [hout5 j (by omega), hA4.1 _ (by decide)]
          have kA : ∀ k, k ≠ 38 → k ≠ 39 → k ≠ 41 → zS115.1 k = S.1 k := fun k g1 g2 g3 => by rw [hA5.1 k (by simp [g3]), hA4.1 k (by simp [g1, g2]), hA2.1 k (by simp [g3]), hA1.1 k (by simp [g1, g2])]
          have krow : ∀ k, k < 4 → zS115.1 41 k = nI k := fun j hj => by rw [k41 j (by omega), hout2 j (by omega), hA1.1 _ (by decide)]; exact h.2.2.2.2.2.2.1 j hj
          have hI : InvX zS115 m := h.scr (fun k hk _ => kA k (by omega) (by omega) (by omega)) krow
          have hX6 := hI.fx hm
          have hT6 : HT zS115 4 (mS m s) := ⟨hAt2.congr (fun j hj => k41 _ (by omega)), by omega⟩
          have hU6 : HT zS115 19 (mTy m (3 * c + j) s') := ⟨hAt5, by omega⟩
          refine (g_ld rfl rfl rfl (g_gr rfl rfl rfl rfl rfl (g_cv rfl (s_oneFits hX6 hT6 hU6 hct hcU) (by omega) rfl rfl rfl rfl rfl rfl rfl rfl rfl (z_k1 (g_if rfl rfl (fun zc125 => (g_c rfl rfl (g_ri rfl rfl rfl ?_))) (fun zc125 => (g_c rfl rfl (g_go rfl (g_ri rfl rfl rfl ?_)))))))))
          · have hf := b2_0.mp zc125
            rw [b2_f hf]
            exact ⟨rfl, hI⟩
          · have hf := b2_n.mp zc125
            rw [b2_t hf]
            exact ⟨rfl, hI⟩
        · exact absurd (by decide) zc101
      · have hL : ¬ (mTy m (3 * c + j) s').length ≤ 15 := Nat.not_le.mpr q1
        rw [if_neg hL]
        refine (g_if rfl rfl (fun zc101 => ?_) (fun zc101 => (g_c rfl rfl (g_ri rfl rfl rfl ?_))))
        · exact absurd rfl zc101
        · refine ⟨rfl, h.scr (fun k hk _ => by rw [hA4.1 k (by simp; omega), hA2.1 k (by simp; omega), hA1.1 k (by simp; omega)]) (fun k hk => ?_)⟩
          rw [hA4.1 _ (by decide), hout2 k (by omega), hA1.1 _ (by decide)]; exact h.2.2.2.2.2.2.1 k hk
    · rw [hC, gK_eq (m := m) h.2.2.2.1] at zc66
      rw [if_pos (Decidable.not_not.mp zc66)]
      exact ⟨rfl, h⟩
  · have a' := b2_n.mp zc13
    rw [hZ'] at a'
    obtain ⟨hC, -⟩ := gC_eq h hm a'
    have g := b2_0.mp (Decidable.not_not.mp zc32)
    rw [hC, gM_eq (m := m) h.2.2.1] at g
    have b : ¬ stOk m x y z := fun q => g q.2.2
    rw [if_neg b]; exact ⟨rfl, h⟩
end
