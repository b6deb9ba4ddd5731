/-! the reference: lay, read, lift -/
section
variable {l : Launch} {D : va_G} {ad : Nat → Nat} {cA : ClassId} {x y z w : Int32} {S S' S0 : zS} {m : Mt} {B : Bk} {t u A : List Nat} {n p k r c j s o a b N st of : Nat}
theorem lp_layM (hs : s < 8) (hs0 : At (S0.1 17) a t) (ha : a + t.length ≤ 4000) (h15 : t.length ≤ 15) {Post : Value → zS → Prop} (K : ∀ T, Am [13] [] S0 T → At (T.1 13) (16 * s) t → (∀ j, ¬ (16 * s ≤ j ∧ j < 16 * s + 16) → T.1 13 j = S0.1 13 j) → Go (l, wM, D, ad, cA) 0 m_M_lay Post 52 [some (.ref 0), some (.int (nI a)), some (.int (nI s)), some (.int (nI t.length)), some (.int (nI t.length))] [] T) : ∀ (k i : Nat) (S : zS), i + k = t.length → Am [13] [] S0 S → At (S.1 13) (16 * s) (t.take i) → (∀ j, ¬ (16 * s ≤ j ∧ j < 16 * s + 16) → S.1 13 j = S0.1 13 j) → Go (l, wM, D, ad, cA) 0 m_M_lay Post 19 [some (.ref 0), some (.int (nI a)), some (.int (nI s)), some (.int (nI t.length)), some (.int (nI i))] [] S
  | 0, i, S, e, hA, hz, ho => by
    have e8 : i = t.length := by omega
    subst e8
    rw [List.take_of_length_le (Nat.le_refl _)] at hz
    refine (g_ld rfl rfl rfl (g_ld rfl rfl rfl (g_if rfl rfl (fun zc22 => ?_) (fun zc22 => ?_))))
    · exact K S hA hz ho
    · exact absurd (Int32.le_refl _) zc22
  | k + 1, i, S, e, hA, hz, ho => by
    have hi : i < t.length := by omega
    have hlen : (t.take i).length = i := by simp; omega
    refine (g_ld rfl rfl rfl (g_ld rfl rfl rfl (g_if rfl rfl (fun zc22 => ?_) (fun zc22 => (g_ld rfl rfl rfl (g_gr rfl rfl rfl rfl rfl (g_c rfl rfl (g_ld rfl rfl rfl (g_bin rfl rfl (g_ld rfl rfl rfl (g_bin rfl rfl (g_ld rfl rfl rfl (g_gr rfl rfl rfl rfl rfl (g_ld rfl rfl rfl (g_ld rfl rfl rfl (g_bin rfl rfl (g_ald rfl rfl rfl ?_ (g_ast rfl rfl rfl ?_ (g_inc rfl rfl rfl rfl (g_go rfl ?_))))))))))))))))))))
    · have := le_n zc22
      omega
    · rw [nI_add]; exact vp_in_nI (show a + i < 4000 by omega) (by decide)
    · rw [e16]; exact vp_in_nI (show 16 * s + i < 128 by omega) (by decide)
    · rw [nI_add, nI_clamp (by omega), hA.1 17 (by decide) (by decide), hs0 i hi, e16, nI_clamp (by omega)]
      have := lp_layM hs hs0 ha h15 K k (i + 1) (z_ui S 13 (16 * s + i) (nI (t.getD i 0))) (by omega) (hA.ui (by decide) (by decide)) (by
        rw [take_s hi, ui_at]
        have := At.push (s := t.getD i 0) hz
        rw [hlen] at this
        exact this) (fun j hj => by
        rw [ui_at, pk_un (by omega)]
        exact ho j hj)
      rw [nI_succ i] at this
      exact this
theorem s_layM (h : InvM S m) (hm : MOk m) (hs : s < 8) (hs0 : At (S.1 17) a t) (h27 : S.1 0 27 = nI (a + t.length)) (ha : a + t.length ≤ 4000) (hx : x = nI s) : Sp (l, wM, D, ad, cA) 0 m_M_lay [.ref 0, .int (nI a), .int x] S (fun v S' => (t.length ≤ 15 ∧ v = .int (nI t.length) ∧ InvM S' (m_slot m s t)) ∨ (¬ t.length ≤ 15 ∧ v = .int (-104) ∧ S' = S)) := by
  subst hx
  have e1 : S.1 0 27 - nI a = nI t.length := by rw [h27, pk_sub (by omega), Nat.add_sub_cancel_left]
  refine Sp.of dk_M_lay ok_M_lay rfl (g_ld rfl rfl rfl (g_gi rfl rfl rfl rfl rfl (g_ld rfl rfl rfl (g_bin rfl rfl (g_st rfl rfl rfl rfl rfl (g_ld rfl rfl rfl (g_c rfl rfl (g_if rfl rfl (fun zc10 => ?_) (fun zc10 => (g_c rfl rfl (g_ri rfl rfl rfl ?_)))))))))))
  · rw [e1] at zc10 ⊢
    have h15 : t.length ≤ 15 := le_n (b := 15) zc10
    refine (g_c rfl rfl (g_st rfl rfl rfl rfl rfl ?_))
    refine lp_layM hs hs0 ha h15 (fun T hA hT hout => ?_) t.length 0 S (by omega) Am.rf At.nil (fun _ _ => rfl)
    refine (g_ld rfl rfl rfl (g_gr rfl rfl rfl rfl rfl (g_ld rfl rfl rfl (g_ld rfl rfl rfl (g_ast rfl rfl rfl ?_ (g_ld rfl rfl rfl (g_ri rfl rfl rfl ?_)))))))
    · exact vp_in_nI hs (by decide)
    · rw [nI_clamp (by omega)]
      refine Or.inl ⟨h15, rfl, ?_⟩
      refine h.slot ((hA.mono (by simp) (by simp)).ui (by decide) (by decide)) (by rw [ui_at, pk_us]) (fun j hj => by rw [ui_at, pk_un hj, hA.1 12 (by decide) (by decide)]) (by rw [ui_ne (by decide)]; exact hT) (fun j hj => by rw [ui_ne (by decide)]; exact hout j hj) hm.2.2.2.1.l15
  · rw [e1] at zc10
    refine Or.inr ⟨fun g => zc10 (nI_le (b := 15) g (by omega)), rfl, rfl⟩
theorem gC_M (h : InvM S m) (hm : MOk m) (hx : 0 < gZ m x) : ∃ s c, s < 8 ∧ x = nI s ∧ x.toNatClampNeg = s ∧ CT (mB m) (mS m s) ∧ (mS m s).length ≤ 15 ∧ S.1 13 (16 * x).toNatClampNeg = nI c ∧ gC m x = nI c ∧ ahd (mS m s) = c ∧ c < bN (mB m) ∧ c < 4 ∧ vp_in (16 * x) 128 ∧ S.1 12 s = nI (mS m s).length ∧ At (S.1 13) (16 * s) (mS m s) := by
  obtain ⟨s, hs, e1, e2, hc, h15, e3⟩ := gZ_pos hm hx
  have h4 := hm.2.2.1.1
  obtain ⟨c, r, ht, hah, hcn⟩ := hc.ne
  have hsl := h.2.2.2.1.2.1 s hs
  have ex : 16 * x = nI (16 * s) := by rw [e1, show (16 : Int32) = nI 16 from rfl, pk_mul]
  refine ⟨s, c, hs, e1, e2, hc, h15, ?_, ?_, hah, hcn, by omega, ?_, hsl.1, hsl.2⟩
  · rw [ex, nI_clamp (by omega)]
    have := hsl.2 0 (by show 0 < (mS m s).length; rw [ht]; simp)
    rw [Nat.add_zero] at this
    rw [this]
    show nI ((mS m s).getD 0 0) = _
    rw [ht]; rfl
  · unfold gC; rw [e2, hah]
  · rw [ex]; exact vp_in_nI (show 16 * s < 128 by omega) (by decide)
theorem arg_l (hc : u.length ≤ 15) : (arg (bP B) u 0).length ≤ 15 ∧ (arg (bP B) u 1).length ≤ 15 := by
  constructor
  · show (u.tail.take _).length ≤ 15
    rw [List.length_take, List.length_tail]
    omega
  · show (((u.tail.drop _).take _)).length ≤ 15
    rw [List.length_take, List.length_drop, List.length_tail]
    omega
theorem ty_len (hS : TyM S p t) : ∃ st, S.1 9 p = nI st ∧ st + t.length ≤ 90 ∧ At (S.1 10) st (t.map enc) := hS
theorem y_read (h : InvM S m) (hm : MOk m) : Sp (l, wM, D, ad, cA) 3 m_M_read [.ref 0, .int x, .int y, .int z] S (fun v S' => v = .int (v_read m x y z) ∧ InvM S' (m_read m x y z)) := by
  have hW := hm.2.2.1
  unfold v_read m_read
  refine Sp.of dk_M_read ok_M_read rfl (g_ld rfl rfl rfl (g_ld rfl rfl rfl (g_cv rfl (s_isFull h) (by omega) rfl rfl rfl rfl rfl rfl rfl rfl rfl (z_k1 (g_if rfl rfl (fun zc5 => (g_c rfl rfl (g_ri rfl rfl rfl ?_))) (fun zc5 => (g_ld rfl rfl rfl (g_un rfl rfl (g_c rfl rfl (g_c rfl rfl (g_cs rfl (s_inE (lo := 0) (hi := 7) rfl rfl) (by omega) rfl rfl rfl rfl rfl rfl (z_k1 (g_if rfl rfl (fun zc17 => (g_c rfl rfl (g_ri rfl rfl rfl ?_))) (fun zc17 => ?_))))))))))))))
  · have a := b2_0.mp zc5
    have b : ¬ rdOk m x y z := fun q => a q.1
    rw [if_neg b, if_neg b]; exact ⟨rfl, h⟩
  · have a := b2_0.mp zc17
    rw [in07] at a
    have b : ¬ rdOk m x y z := fun q => a q.2.2
    rw [if_neg b, if_neg b]; exact ⟨rfl, h⟩
  · have a := b2_n.mp zc5
    have az := b2_n.mp zc17
    rw [in07] at az
    obtain ⟨s, c, hs, e1, e2, hct, h15, r13, e4', e5, hcb, hc4, hin, hs12, hs13⟩ := gC_M h hm a
    refine (g_ld rfl rfl rfl (g_ld rfl rfl rfl (g_gr rfl rfl rfl rfl rfl (g_c rfl rfl (g_ld rfl rfl rfl (g_bin rfl rfl (g_ald rfl rfl rfl hin (g_ld rfl rfl rfl ?_))))))))
    rw [r13]
    refine (g_cv rfl (s_isMemberOf h hm) (by omega) rfl rfl rfl rfl rfl rfl rfl rfl rfl (z_k1 ?_))
    refine (g_if rfl rfl (fun zc34 => ?_) (fun zc34 => (g_c rfl rfl (g_ri rfl rfl rfl ?_))))
    · have g := b2_n.mp zc34
      have g' : 0 ≤ y ∧ y < gM m (gC m x) := by rw [e4']; exact g
      have b : rdOk m x y z := ⟨a, g', az⟩
      rw [if_pos b, if_pos b]
      obtain ⟨c', j, hc', hc'4, hj, hj3, f1, f2, f3, f4, f5⟩ := kd_at h hm g
      have ec : c' = c := eq_n f1.symm
      subst ec
      have hk5 : mK m (3 * c' + j) < 5 := hm.2.2.2.1.1 (3 * c' + j)
      have hty := (hW.2.2.2.2.1 c' j hc4 hj3).1 hj
      obtain ⟨z8, hz8, ez, ez2⟩ := in_cl (n := 8) az.1 az.2
      have hrd : rdTy m x y = mTy m (3 * c' + j) s := by
        unfold rdTy
        rw [e4', f2, show (3 : Int32) = nI 3 from rfl, pk_mul, nI_add, nI_clamp (by omega), e2]
      have hgK : gK m (gC m x) y = nI (mK m (3 * c' + j)) := by rw [e4']; exact f5
      rw [hgK, kw_eq _ hk5, hrd, ez2]
      have rK : S.1 11 (4 * nI c' + y).toNatClampNeg = nI (mK m (3 * c' + j)) := by rw [f4, f5]
      refine (g_ld rfl rfl rfl (g_gr rfl rfl rfl rfl rfl (g_c rfl rfl (g_ld rfl rfl rfl (g_bin rfl rfl (g_ald rfl rfl rfl ?_ (g_st rfl rfl rfl rfl rfl (g_ld rfl rfl rfl (g_gr rfl rfl rfl rfl rfl (g_c rfl rfl (g_ld rfl rfl rfl (g_bin rfl rfl (g_ld rfl rfl rfl (g_bin rfl rfl (g_ald rfl rfl rfl ?_ ?_)))))))))))))))
      · exact hin
      · rw [r13, f3]; exact vp_in_nI (show 4 * c' + j < 16 by omega) (by decide)
      · rw [r13, rK]
        refine (g_cs rfl (s_waysBy hk5) (by omega) rfl rfl rfl rfl rfl rfl (z_k1 ?_))
        refine (g_c rfl rfl (g_bin rfl rfl (g_if rfl rfl (fun zc67 => ?_) (fun zc67 => (g_c rfl rfl (g_ri rfl rfl rfl ?_))))))
        · rw [if_neg zc67, if_neg zc67]
          have hU : InvM (z_ui S 0 27 0) m := h.sc (Am.rf (ks := []) (fs := [27]) |>.fd (by decide)).sc
          refine (g_ld rfl rfl rfl (g_c rfl rfl (g_pi rfl rfl rfl rfl rfl rfl rfl (g_ld rfl rfl rfl (g_ld rfl rfl rfl (g_cv rfl (s_addSlot (n := 0) (k := s) (u := mS m s) (by rw [ui_at, pk_us]; rfl) (by rw [ui_ne (by decide)]; exact hs12) (by rw [ui_ne (by decide)]; exact hs13) hs h15 (by omega) e1) (by omega) rfl rfl rfl rfl rfl rfl rfl rfl rfl (fun zv80 zS80 zh80 => ?_)))))))
          obtain ⟨rfl, hA1, q27, -, qAt⟩ := zh80
          rw [Nat.zero_add] at q27
          have hB2 : BkM zS80 (mB m) := hU.2.2.1.am hA1
          obtain ⟨st, t1, t2, t3⟩ := hB2.2.2.2.2.2 c' j hcb hj
          have hal := arg_l (B := mB m) h15
          have hsl := sub_len hal.1 hal.2 (by omega) (bT (mB m) (3 * c' + j))
          have hty2 : TyOk (mB m) (ahd (mS m s)) (bT (mB m) (3 * c' + j)) := by rw [e5]; exact hty
          refine (g_st rfl rfl rfl rfl rfl (g_ld rfl rfl rfl (g_ld rfl rfl rfl (g_ld rfl rfl rfl (g_gr rfl rfl rfl rfl rfl (g_c rfl rfl (g_ld rfl rfl rfl (g_bin rfl rfl (g_ld rfl rfl rfl (g_bin rfl rfl (g_c rfl rfl (g_bin rfl rfl (g_ald rfl rfl rfl ?_ (g_ld rfl rfl rfl ?_))))))))))))))
          · rw [f3, ← nI_succ]; exact vp_in_nI (show 4 * c' + j + 1 < 16 by omega) (by decide)
          · have hidx : zS80.1 9 (4 * nI c' + y + 1).toNatClampNeg = nI st := by rw [f3, ← nI_succ, nI_clamp (by omega)]; exact t1
            refine (g_cv rfl (s_addPut (n := (mS m s).length) (of := 0) (u := mS m s) hB2 hW hct qAt (by omega) t2 t3 hty2 q27 (by omega) hidx rfl) (by omega) rfl rfl rfl rfl rfl rfl rfl rfl rfl (fun zv102 zS102 zh102 => ?_))
            obtain ⟨rfl, hA2, p27, -, pAt⟩ := zh102
            have hI2 : InvM zS102 m := (hU.sc hA1.sc).sc hA2.sc
            refine (g_ld rfl rfl rfl (g_cv rfl (s_layM hI2 hm hz8 pAt p27 (by omega) ez) (by omega) rfl rfl rfl rfl rfl rfl rfl rfl rfl (fun zv106 zS106 zh106 => ?_)))
            rcases zh106 with ⟨q1, rfl, q3⟩ | ⟨q1, rfl, rfl⟩
            · refine (g_ri rfl rfl rfl ?_)
              have hL : (mTy m (3 * c' + j) s).length ≤ 15 := q1
              rw [if_pos hL, if_pos hL]
              exact ⟨rfl, q3⟩
            · refine (g_ri rfl rfl rfl ?_)
              have hL : ¬ (mTy m (3 * c' + j) s).length ≤ 15 := q1
              rw [if_neg hL, if_neg hL]
              exact ⟨rfl, hI2⟩
        · have g0 := Decidable.not_not.mp zc67
          rw [if_pos g0, if_pos g0]
          exact ⟨rfl, h⟩
    · have g := b2_0.mp (Decidable.not_not.mp zc34)
      have b : ¬ rdOk m x y z := fun q => g (by have := q.2.1; rw [e4'] at this; exact this)
      rw [if_neg b, if_neg b]; exact ⟨rfl, h⟩
theorem y_lift (h : InvM S m) (hm : MOk m) : Sp (l, wM, D, ad, cA) 2 m_M_lift [.ref 0, .int x, .int z] S (fun v S' => v = .int (v_lift m x z) ∧ InvM S' (m_lift m x z)) := by
  have hW := hm.2.2.1
  unfold v_lift m_lift
  refine Sp.of dk_M_lift ok_M_lift rfl (g_ld rfl rfl rfl (g_ld rfl rfl rfl (g_cv rfl (s_isFull h) (by omega) rfl rfl rfl rfl rfl rfl rfl rfl rfl (z_k1 (g_if rfl rfl (fun zc5 => (g_c rfl rfl (g_ri rfl rfl rfl ?_))) (fun zc5 => (g_ld rfl rfl rfl (g_un rfl rfl (g_c rfl rfl (g_c rfl rfl (g_cs rfl (s_inE (lo := 0) (hi := 7) rfl rfl) (by omega) rfl rfl rfl rfl rfl rfl (z_k1 (g_if rfl rfl (fun zc17 => ?_) (fun zc17 => (g_c rfl rfl (g_ri rfl rfl rfl ?_))))))))))))))))
  · have a := b2_0.mp zc5
    have b : ¬ lfOk m x z := fun q => a q.1
    rw [if_neg b, if_neg b]; exact ⟨rfl, h⟩
  · have a := b2_n.mp zc5
    have az := b2_n.mp zc17
    rw [in07] at az
    have b : lfOk m x z := ⟨a, az⟩
    rw [if_pos b, if_pos b]
    obtain ⟨s, c, hs, e1, e2, hct, h15, r13, e4', e5, hcb, hc4, hin, hs12, hs13⟩ := gC_M h hm a
    obtain ⟨z8, hz8, ez, ez2⟩ := in_cl (n := 8) az.1 az.2
    have hlB : lfB m x = bT (mB m) (12 + c) := by unfold lfB; rw [e2, e5]
    have hlT : lfTy m x = mTy m (12 + c) s := by unfold lfTy; rw [e2, e5]
    rw [hlB, hlT, ez2]
    refine (g_ld rfl rfl rfl (g_gr rfl rfl rfl rfl rfl (g_c rfl rfl (g_ld rfl rfl rfl (g_bin rfl rfl (g_ald rfl rfl rfl ?_ (g_st rfl rfl rfl rfl rfl ?_)))))))
    · exact hin
    rw [r13]
    refine (g_ld rfl rfl rfl (g_gr rfl rfl rfl rfl rfl (g_ld rfl rfl rfl (g_ald rfl rfl rfl ?_ (g_c rfl rfl (g_if rfl rfl (fun zc40 => ?_) (fun zc40 => (g_c rfl rfl (g_ri rfl rfl rfl ?_)))))))))
    · exact vp_in_nI hc4 (by decide)
    · rw [nI_clamp (by omega), h.2.2.1.2.2.2.1 c hcb] at zc40
      have hne : ¬ bT (mB m) (12 + c) = [] := fun g => zc40 (by unfold abI; rw [g])
      rw [if_neg hne, if_neg hne]
      have hty : TyOk (mB m) c (bT (mB m) (12 + c)) := by
        rcases hW.2.2.2.2.2 c hc4 with g | g
        · exact absurd g hne
        · exact g.2.1
      have hU : InvM (z_ui S 0 27 0) m := h.sc (Am.rf (ks := []) (fs := [27]) |>.fd (by decide)).sc
      refine (g_ld rfl rfl rfl (g_c rfl rfl (g_pi rfl rfl rfl rfl rfl rfl rfl (g_ld rfl rfl rfl (g_ld rfl rfl rfl (g_cv rfl (s_addSlot (n := 0) (k := s) (u := mS m s) (by rw [ui_at, pk_us]; rfl) (by rw [ui_ne (by decide)]; exact hs12) (by rw [ui_ne (by decide)]; exact hs13) hs h15 (by omega) e1) (by omega) rfl rfl rfl rfl rfl rfl rfl rfl rfl (fun zv80 zS80 zh80 => ?_)))))))
      obtain ⟨rfl, hA1, q27, -, qAt⟩ := zh80
      rw [Nat.zero_add] at q27
      have hB2 : BkM zS80 (mB m) := hU.2.2.1.am hA1
      obtain ⟨st, t1, t2, t3⟩ := hB2.2.2.2.2.1 c hcb hne
      have hal := arg_l (B := mB m) h15
      have hsl := sub_len hal.1 hal.2 (by omega) (bT (mB m) (12 + c))
      have hty2 : TyOk (mB m) (ahd (mS m s)) (bT (mB m) (12 + c)) := by rw [e5]; exact hty
      refine (g_st rfl rfl rfl rfl rfl (g_ld rfl rfl rfl (g_ld rfl rfl rfl (g_ld rfl rfl rfl (g_gr rfl rfl rfl rfl rfl (g_c rfl rfl (g_ld rfl rfl rfl (g_bin rfl rfl (g_ald rfl rfl rfl ?_ (g_ld rfl rfl rfl ?_))))))))))
      · rw [show (4 : Int32) = nI 4 from rfl, pk_mul]; exact vp_in_nI (show 4 * c < 16 by omega) (by decide)
      · have hidx : zS80.1 9 (4 * nI c).toNatClampNeg = nI st := by rw [show (4 : Int32) = nI 4 from rfl, pk_mul, nI_clamp (by omega)]; exact t1
        refine (g_cv rfl (s_addPut (n := (mS m s).length) (of := 0) (u := mS m s) hB2 hW hct qAt (by omega) t2 t3 hty2 q27 (by omega) hidx rfl) (by omega) rfl rfl rfl rfl rfl rfl rfl rfl rfl (fun zv102 zS102 zh102 => ?_))
        obtain ⟨rfl, hA2, p27, -, pAt⟩ := zh102
        have hI2 : InvM zS102 m := (hU.sc hA1.sc).sc hA2.sc
        refine (g_ld rfl rfl rfl (g_cv rfl (s_layM hI2 hm hz8 pAt p27 (by omega) ez) (by omega) rfl rfl rfl rfl rfl rfl rfl rfl rfl (fun zv106 zS106 zh106 => ?_)))
        rcases zh106 with ⟨q1, rfl, q3⟩ | ⟨q1, rfl, rfl⟩
        · refine (g_ri rfl rfl rfl ?_)
          have hL : (mTy m (12 + c) s).length ≤ 15 := q1
          rw [if_pos hL, if_pos hL]
          exact ⟨rfl, q3⟩
        · refine (g_ri rfl rfl rfl ?_)
          have hL : ¬ (mTy m (12 + c) s).length ≤ 15 := q1
          rw [if_neg hL, if_neg hL]
          exact ⟨rfl, hI2⟩
    · rw [nI_clamp (by omega), h.2.2.1.2.2.2.1 c hcb] at zc40
      have hab := Decidable.not_not.mp zc40
      rcases ab_lt hW hc4 with ⟨g, -⟩ | ⟨b', bs, g, -, -, g2, g3⟩
      · rw [if_pos g, if_pos g]; exact ⟨rfl, h⟩
      · rw [g2] at hab
        exact absurd hab g3
  · have a := b2_0.mp (Decidable.not_not.mp zc17)
    rw [in07] at a
    have b : ¬ lfOk m x z := fun q => a q.2
    rw [if_neg b, if_neg b]; exact ⟨rfl, h⟩
end
