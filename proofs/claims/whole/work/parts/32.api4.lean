/-! read, lift, stores -/
def mTy (m : Mt) (p s : Nat) : List Nat := sub (bT (mB m) p) (arg (bP (mB m)) (mS m s) 0) (arg (bP (mB m)) (mS m s) 1)
def gC (m : Mt) (x : Int32) : Int32 := nI (ahd (mS m x.toNatClampNeg))
section
variable {l : Launch} {D : va_G} {ad : Nat → Nat} {cA : ClassId} {x y z w : Int32} {S S' : zS} {m : Mt} {B : Bk} {kd : Nat → Nat} {r q n : Nat}
theorem s_make {sl : Nat → List Nat} (hB : BkX S 3 B) (hW : WfB B) (hSl : SlX S sl) {p s : Nat} (hp : p < 16) (hs : s < 8) (hc : CT B (sl s)) (hsg : ∀ y ∈ bT B p, sgOk B (ahd (sl s)) y) {xp xs : Int32} (hxp : xp = nI p) (hxs : xs = nI s) : Sp (l, wX, D, ad, cA) 3 m_SB_make [.ref 0, .int xp, .int xs] S (tyPost S (sub (bT B p) (arg (bP B) (sl s) 0) (arg (bP B) (sl s) 1))) := by
  refine Sp.of dk_SB_make ok_SB_make rfl (g_ld rfl rfl rfl (g_gr rfl rfl rfl rfl rfl (g_ld rfl rfl rfl (g_gr rfl rfl rfl rfl rfl (g_ld rfl rfl rfl (g_ld rfl rfl rfl (g_gr rfl rfl rfl rfl rfl (g_ld rfl rfl rfl (g_cv rfl (s_takeType hB hW hSl hp hs hc hsg hxp hxs) (by omega) rfl rfl rfl rfl rfl rfl rfl rfl rfl (fun zv14 zS14 zh14 => ?_))))))))))
  rcases zh14 with ⟨⟨q1, rfl, q3⟩ | ⟨q1, rfl⟩, q5⟩
  · refine (g_ri rfl rfl ?_ ?_)
    · rfl
    · exact ⟨Or.inl ⟨q1, rfl, q3⟩, q5⟩
  · refine (g_ri rfl rfl ?_ ?_)
    · rfl
    · exact ⟨Or.inr ⟨q1, rfl⟩, q5⟩
theorem gC_eq (h : InvX S m) (hm : MOk m) (hx : 0 < gZ m x) : f_sig S 18 x 0 = gC m x ∧ ∃ s c, s < 8 ∧ x = nI s ∧ x.toNatClampNeg = s ∧ CT (mB m) (mS m s) ∧ (mS m s).length ≤ 15 ∧ gC m x = nI c ∧ ahd (mS m s) = c ∧ c < bN (mB m) ∧ c < 4 := by
  obtain ⟨s, hs, e1, e2, hc, h15, e3⟩ := gZ_pos hm hx
  have h4 := hm.2.2.1.1
  cases ht : mS m s with
  | nil =>
    rw [e3, ht] at hx
    exact absurd hx (by decide)
  | cons a as =>
    have hb : a < bN (mB m) := hc.1 a (by rw [ht]; simp)
    refine ⟨?_, s, a, hs, e1, e2, hc, h15, by unfold gC; rw [e2, ht]; rfl, by rw [ht]; rfl, hb, by omega⟩
    unfold f_sig gC
    rw [e2, e1, if_pos ⟨in8 hs, in15 (k := 0) (by omega)⟩, show (0 : Int32) = nI 0 from rfl, e15, nI_clamp (by omega)]
    have := (h.2.2.2.1.2.1 s hs).2 0 (by show 0 < (mS m s).length; rw [ht]; simp)
    rw [this]
    show nI ((mS m s).getD 0 0) = _
    rw [ht]; rfl
theorem InvX.slot (h : InvX S m) {s : Nat} {t : List Nat} (hA : Ag [20, 21, 38, 39] S S') (hS : SlX S' (fun k => if k = s then t else mS m k)) : InvX S' (m_now m (mK m, (fun k => if k = s then t else mS m k), mE m)) := by
  refine h.now (fun k hk hk2 => hA.1 k (by simp; omega)) (fun k hk => by rw [hA.1 41 (by decide)]; exact h.2.2.2.2.2.2.1 k hk) ⟨?_, fun s hs => ⟨(hS s hs).1, (hS s hs).2.2⟩, ?_, ?_⟩ (h.2.2.2.2.1.ag (hA.1 _ (by decide))) (by rw [hA.1 _ (by decide)]; exact h.2.2.2.2.2.1)
  · rw [hA.1 _ (by decide)]; exact h.2.2.2.1.1
  · rw [hA.1 _ (by decide)]; exact h.2.2.2.1.2.2.1
  · rw [hA.1 _ (by decide), hA.1 _ (by decide)]; exact h.2.2.2.1.2.2.2
def m_slot (m : Mt) (s : Nat) (t : List Nat) : Mt := m_now m (mK m, (fun k => if k = s then t else mS m k), mE m)
abbrev rdOk (m : Mt) (x y z : Int32) : Prop := 0 < gZ m x ∧ (0 ≤ y ∧ y < gM m (gC m x)) ∧ (0 ≤ z ∧ z < 8)
def rdTy (m : Mt) (x y : Int32) : List Nat := mTy m (3 * gC m x + y).toNatClampNeg x.toNatClampNeg
def v_read (m : Mt) (x y z : Int32) : Int32 := if rdOk m x y z then (if f_kw (gK m (gC m x) y) &&& 1 = 0 then -103 else if (rdTy m x y).length ≤ 15 then nI (rdTy m x y).length else -104) else -101
def m_read (m : Mt) (x y z : Int32) : Mt := if rdOk m x y z then (if f_kw (gK m (gC m x) y) &&& 1 = 0 then m else if (rdTy m x y).length ≤ 15 then m_slot m z.toNatClampNeg (rdTy m x y) else m) else m
theorem x_read (h : InvX S m) (hm : MOk m) : Sp (l, wX, D, ad, cA) 4 m_SB_read [.ref 0, .int x, .int y, .int z] S (fun v S' => v = .int (v_read m x y z) ∧ InvX S' (m_read m x y z)) := by
  have hZ := gZ_eq (m := m) h.2.2.2.1 x
  unfold v_read m_read
  refine Sp.of dk_SB_read ok_SB_read rfl (g_ld rfl rfl rfl (g_ld rfl rfl rfl (g_cv rfl (s_isFilled) (by omega) rfl rfl rfl rfl rfl rfl rfl rfl rfl (z_k1 (g_if rfl rfl (fun zc5 => (g_c rfl rfl (g_ri rfl rfl rfl ?_))) (fun zc5 => (g_ld rfl rfl rfl (g_gr rfl rfl rfl rfl rfl (g_ld rfl rfl rfl (g_gr rfl rfl rfl rfl rfl (g_ld rfl rfl rfl (g_cv rfl (s_classIn (by decide)) (by omega) rfl rfl rfl rfl rfl rfl rfl rfl rfl (z_k1 (g_ld rfl rfl rfl (g_cv rfl (s_hasMember (by decide)) (by omega) rfl rfl rfl rfl rfl rfl rfl rfl rfl (z_k1 (g_if rfl rfl (fun zc24 => (g_c rfl rfl (g_ri rfl rfl rfl ?_))) (fun zc24 => (g_ld rfl rfl rfl (g_cs rfl (s_isSlot) (by omega) rfl rfl rfl rfl rfl rfl (z_k1 (g_if rfl rfl (fun zc31 => ?_) (fun zc31 => (g_c rfl rfl (g_ri rfl rfl rfl ?_)))))))))))))))))))))))))
  · have a := b2_0.mp zc5
    rw [hZ] at a
    have b : ¬ rdOk m x y z := fun q => a q.1
    rw [if_neg b, if_neg b]; exact ⟨rfl, h⟩
  · have a := b2_n.mp zc5
    rw [hZ] at a
    obtain ⟨hC, -⟩ := gC_eq h hm a
    have c := b2_0.mp zc24
    rw [hC, gM_eq (m := m) h.2.2.1] at c
    have b : ¬ rdOk m x y z := fun q => c q.2.1
    rw [if_neg b, if_neg b]; exact ⟨rfl, h⟩
  · have a := b2_n.mp zc5
    rw [hZ] at a
    obtain ⟨hC, s, c, hs, e1, e2, hct, h15, e4, e5, hcb, hc4⟩ := gC_eq h hm a
    have g := b2_n.mp zc24
    rw [hC, gM_eq (m := m) h.2.2.1] at g
    have gz := b2_n.mp zc31
    have b : rdOk m x y z := ⟨a, g, gz⟩
    rw [if_pos b, if_pos b]
    obtain ⟨c', j, hc', hj, f1, f2, hp, hp12, hcn⟩ := mem_in hm g
    have ec : c = c' := eq_n (e4.symm.trans f1)
    subst ec
    have hxp : 3 * f_sig S 18 x 0 + y = nI (3 * c + j) := by rw [hC]; exact hp
    have hp16 : 3 * c + j < 16 := by omega
    have hj3 : j < 3 := by have := hm.2.2.1.2.2.2.1 c; omega
    have hty := (hm.2.2.1.2.2.2.2.1 c j hc4 hj3).1 hj
    have hsg : ∀ y ∈ bT (mB m) (3 * c + j), sgOk (mB m) (ahd (mS m s)) y := by rw [e5]; exact hty.2.2
    have hrd : rdTy m x y = mTy m (3 * c + j) s := by unfold rdTy; rw [hp, nI_clamp (by omega), e2]
    obtain ⟨z8, hz8, ez, ez2⟩ := in_cl (n := 8) gz.1 gz.2
    rw [hrd, ez2]
    refine (g_ld rfl rfl rfl (g_gr rfl rfl rfl rfl rfl (g_ld rfl rfl rfl (g_cv rfl (s_classIn (by decide)) (by omega) rfl rfl rfl rfl rfl rfl rfl rfl rfl (z_k1 (g_ld rfl rfl rfl (g_cs rfl (s_placeOf) (by omega) rfl rfl rfl rfl rfl rfl (z_k1 (g_st rfl rfl rfl rfl rfl (g_ld rfl rfl rfl (g_gr rfl rfl rfl rfl rfl (g_ld rfl rfl rfl (g_cv rfl (s_kindOf (by decide)) (by omega) rfl rfl rfl rfl rfl rfl rfl rfl rfl (z_k1 (g_cs rfl (s_kindWays) (by omega) rfl rfl rfl rfl rfl rfl (z_k1 (g_c rfl rfl (g_bin rfl rfl (g_if rfl rfl (fun zc65 => ?_) (fun zc65 => (g_c rfl rfl (g_ri rfl rfl rfl ?_))))))))))))))))))))))
    · rw [hC, gK_eq (m := m) h.2.2.2.1] at zc65
      rw [if_neg zc65, if_neg zc65]
      refine (g_ld rfl rfl rfl (g_ld rfl rfl rfl (g_ld rfl rfl rfl (g_cv rfl (s_make h.2.2.1 hm.2.2.1 (h.sl hm) (p := 3 * c + j) hp16 hs hct hsg hxp e1) (by omega) rfl rfl rfl rfl rfl rfl rfl rfl rfl (fun zv75 zS75 zh75 => ?_)))))
      rcases zh75 with ⟨⟨q1, rfl, zh75r⟩ | ⟨q1, rfl⟩, hA1⟩
      · have hSl2 : SlX zS75 (mS m) := (h.sl hm).ag (hA1.1 _ (by decide)) (hA1.1 _ (by decide))
        refine (g_if rfl rfl (fun zc78 => (g_c rfl rfl (g_ri rfl rfl rfl ?_))) (fun zc78 => (g_ld rfl rfl rfl (g_gr rfl rfl rfl rfl rfl (g_ld rfl rfl rfl (g_ld rfl rfl rfl (g_gr rfl rfl rfl rfl rfl (g_cv rfl (s_put hSl2 hz8 zh75r ez) (by omega) rfl rfl rfl rfl rfl rfl rfl rfl rfl (fun zv90 zS90 zh90 => ?_)))))))))
        · exact absurd zc78 (by decide)
        · obtain ⟨rfl, hA2, hS2⟩ := zh90
          refine (g_go rfl (g_ri rfl rfl rfl ?_))
          have hL : (mTy m (3 * c + j) s).length ≤ 15 := q1
          rw [if_pos hL, if_pos hL]
          refine ⟨rfl, ?_⟩
          exact h.slot (Ag.tr (hA1.mono (by simp +contextual)) (hA2.mono (by simp +contextual))) hS2
      · have hL : ¬ (mTy m (3 * c + j) s).length ≤ 15 := Nat.not_le.mpr q1
        refine (g_if rfl rfl (fun zc78 => (g_c rfl rfl (g_ri rfl rfl rfl ?_))) (fun zc78 => ?_))
        · rw [if_neg hL, if_neg hL]
          exact ⟨rfl, h.scr (fun k hk _ => hA1.1 k (by simp; omega)) (fun k hk => by rw [hA1.1 41 (by decide)]; exact h.2.2.2.2.2.2.1 k hk)⟩
        · exact absurd rfl zc78
    · rw [hC, gK_eq (m := m) h.2.2.2.1] at zc65
      have c := Decidable.not_not.mp zc65
      rw [if_pos c, if_pos c]
      exact ⟨rfl, h⟩
  · have c := b2_0.mp (Decidable.not_not.mp zc31)
    have b : ¬ rdOk m x y z := fun q => c q.2.2
    rw [if_neg b, if_neg b]; exact ⟨rfl, h⟩
end
