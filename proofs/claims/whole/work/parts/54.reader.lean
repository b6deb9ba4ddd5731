/-! the Reader: signs -/
def cur (q : Ps) : Nat := if qH q = 3 then 12 + qN q else if qH q = 5 then pl5 q else 99
def RdX (S : zS) (q : Ps) (j : Nat) : Prop := QOk q ∧ S.1 17 1 = nI (qH q) ∧ S.1 17 2 = nI (qN q) ∧ (∃ k, k ≤ j ∧ DfX S (qB q) (qK q) k (cur q)) ∧ (qH q = 3 ∨ qH q = 5 → S.1 17 3 = nI (cur q) ∧ S.1 17 4 = nI (qO q)) ∧ qO q ≤ 1 + 2 * j
def rdPost (S0 : zS) (q : Ps) (c j : Nat) : Value → zS → Prop := fun v S' => Ag [10, 11, 12, 13, 14, 15, 16, 17] S0 S' ∧ ((stp q c = none ∧ v = .int 0) ∨ ∃ q', stp q c = some q' ∧ v = .int 1 ∧ RdX S' q' (j + 1))
def sgI (B : Bk) (b c : Nat) : Int32 := match sg B b c with
  | some s => nI s
  | none => -1
def tsPost (S0 : zS) (B : Bk) (K : Nat → Nat) (k p o s : Nat) : Value → zS → Prop := fun v S' => v = .int 1 ∧ Ag [10, 14, 16, 17] S0 S' ∧ DfX S' (upT B p (bT B p ++ [s])) K (k + 1) p ∧ S'.1 17 4 = nI (o + bP B s) ∧ S'.1 17 1 = (if o + bP B s = 0 then 4 else S0.1 17 1) ∧ S'.1 17 2 = S0.1 17 2 ∧ S'.1 17 3 = S0.1 17 3
section
variable {l : Launch} {D : va_G} {ad : Nat → Nat} {cA : ClassId} {x y z w : Int32} {S S' S0 : zS} {B : Bk} {K : Nat → Nat} {n p k b c s o j r : Nat} {q : Ps}
theorem sub48 (h : 48 ≤ c) : nI c - 48 = nI (c - 48) := by rw [show (48 : Int32) = nI 48 from rfl, pk_sub (by omega)]
theorem s_signOf (h : DfX S B K k r) (h4 : bN B ≤ 4) (h0 : ∀ k, bN B ≤ k → bP B k = 0) (h2 : ∀ k, bP B k ≤ 2) (hb : S.1 17 2 = nI b) (hb4 : b < 4) (hc : c ≤ 126) : Sp (l, wX, D, ad, cA) 2 m_Rdr_signOf [.ref 17, .int (nI c)] S (fun v S' => v = .int (sgI B b c) ∧ S' = S) := by
  have hP : f_par S 10 (S.1 17 2) = nI (bP B b) := by rw [hb]; exact df_par h h4 h0 (by omega)
  have hP2 := h2 b
  unfold sgI sg
  refine Sp.of dk_Rdr_signOf ok_Rdr_signOf rfl (g_ld rfl rfl rfl (g_c rfl rfl (g_if rfl rfl (fun zc3 => (g_ld rfl rfl rfl (g_c rfl rfl (g_if rfl rfl (fun zc30 => (g_ld rfl rfl rfl (g_gr rfl rfl rfl rfl rfl (g_ld rfl rfl rfl (g_c rfl rfl (g_bin rfl rfl (g_cv rfl (s_hasClass (by decide)) (by omega) rfl rfl rfl rfl rfl rfl rfl rfl rfl (z_k1 (g_if rfl rfl (fun zc65 => (g_c rfl rfl (g_ri rfl rfl rfl ?_))) (fun zc65 => (g_ld rfl rfl rfl (g_c rfl rfl (g_bin rfl rfl (g_go rfl (g_ri rfl rfl rfl ?_))))))))))))))) (fun zc30 => (g_ld rfl rfl rfl (g_gr rfl rfl rfl rfl rfl (g_ld rfl rfl rfl (g_gi rfl rfl rfl rfl rfl (g_c rfl rfl (g_cv rfl (s_hasParameter (by decide)) (by omega) rfl rfl rfl rfl rfl rfl rfl rfl rfl (z_k1 (g_if rfl rfl (fun zc45 => (g_c rfl rfl (g_ri rfl rfl rfl ?_))) (fun zc45 => (g_c rfl rfl (g_go rfl (g_ri rfl rfl rfl ?_))))))))))))))))) (fun zc3 => (g_ld rfl rfl rfl (g_gr rfl rfl rfl rfl rfl (g_ld rfl rfl rfl (g_gi rfl rfl rfl rfl rfl (g_c rfl rfl (g_cv rfl (s_hasParameter (by decide)) (by omega) rfl rfl rfl rfl rfl rfl rfl rfl rfl (z_k1 (g_if rfl rfl (fun zc18 => (g_c rfl rfl (g_ri rfl rfl rfl ?_))) (fun zc18 => (g_c rfl rfl (g_go rfl (g_ri rfl rfl rfl ?_))))))))))))))))
  · rw [h.1] at zc65
    have g := b2_0.mp zc65
    have c1 : ¬ c = 120 := fun e => zc3 (by rw [e]; rfl)
    have c2 : ¬ c = 121 := fun e => zc30 (by rw [e]; rfl)
    have c3 : ¬ (48 ≤ c ∧ c < 48 + bN B) := fun q => g (by
      rw [sub48 q.1]
      exact ⟨(in_n (n := 4) (show c - 48 < 4 by omega) (by omega)).1, nI_lt (by omega) (by omega), (in_n (n := 4) (show c - 48 < 4 by omega) (by omega)).2⟩)
    rw [if_neg c1, if_neg c2, if_neg c3]
    exact ⟨rfl, rfl⟩
  · rw [h.1] at zc65
    have g := b2_n.mp zc65
    have c1 : ¬ c = 120 := fun e => zc3 (by rw [e]; rfl)
    have c2 : ¬ c = 121 := fun e => zc30 (by rw [e]; rfl)
    have h48 : 48 ≤ c := Nat.le_of_not_lt (fun q => neg48 _ q g.1)
    rw [sub48 h48] at g ⊢
    have c3 : 48 ≤ c ∧ c < 48 + bN B := ⟨h48, by have := lt_n g.2.1; omega⟩
    rw [if_neg c1, if_neg c2, if_pos c3]
    exact ⟨rfl, rfl⟩
  · rw [hP] at zc45
    have g := b2_0.mp zc45
    have c1 : ¬ c = 120 := fun e => zc3 (by rw [e]; rfl)
    have c2 : c = 121 := eq_n (b := 121) (Decidable.not_not.mp zc30)
    have c3 : ¬ 1 < bP B b := fun q => g ⟨by decide, nI_lt (a := 1) q (by omega)⟩
    rw [if_neg c1, if_pos c2, if_neg c3]
    exact ⟨rfl, rfl⟩
  · rw [hP] at zc45
    have g := b2_n.mp zc45
    have c1 : ¬ c = 120 := fun e => zc3 (by rw [e]; rfl)
    have c2 : c = 121 := eq_n (b := 121) (Decidable.not_not.mp zc30)
    have c3 : 1 < bP B b := lt_n (a := 1) g.2
    rw [if_neg c1, if_pos c2, if_pos c3]
    exact ⟨rfl, rfl⟩
  · rw [hP] at zc18
    have g := b2_0.mp zc18
    have c1 : c = 120 := eq_n (b := 120) (Decidable.not_not.mp zc3)
    have c3 : ¬ 0 < bP B b := fun q => g ⟨by decide, nI_lt (a := 0) q (by omega)⟩
    rw [if_pos c1, if_neg c3]
    exact ⟨rfl, rfl⟩
  · rw [hP] at zc18
    have g := b2_n.mp zc18
    have c1 : c = 120 := eq_n (b := 120) (Decidable.not_not.mp zc3)
    have c3 : 0 < bP B b := lt_n (a := 0) g.2
    rw [if_pos c1, if_pos c3]
    exact ⟨rfl, rfl⟩
theorem s_takesNo (hx : x = -1) : Sp (l, wX, D, ad, cA) 1 m_Rdr_takesSign [.ref 17, .int x] S (fun v S' => v = .int 0 ∧ S' = S) := by
  subst hx
  refine Sp.of dk_Rdr_takesSign ok_Rdr_takesSign rfl (g_ld rfl rfl rfl (g_c rfl rfl (g_if rfl rfl (fun zc2 => ?_) (fun zc2 => (g_c rfl rfl (g_ri rfl rfl rfl ?_))))))
  · exact absurd rfl zc2
  · exact ⟨rfl, rfl⟩
theorem s_takesSign (h : DfX S B K k p) (h4 : bN B ≤ 4) (h0 : ∀ k, bN B ≤ k → bP B k = 0) (h2 : ∀ k, bP B k ≤ 2) (hp : p < 16) (hk : k < 90) (h3 : S.1 17 3 = nI p) (ho : S.1 17 4 = nI (o + 1)) (ho2 : o < 1000) (hs : s < 6) (hx : x = nI s) : Sp (l, wX, D, ad, cA) 1 m_Rdr_takesSign [.ref 17, .int x] S (tsPost S B K k p o s) := by
  subst hx
  have hP : f_par S 10 (nI s) = nI (bP B s) := df_par h h4 h0 (by omega)
  have hP2 := h2 s
  have e1 : nI (o + 1) + (nI (bP B s) - 1) = nI (o + bP B s) := by
    rw [nI_succ, Int32.add_assoc, show (1 : Int32) + (nI (bP B s) - 1) = nI (bP B s) by rw [Int32.add_comm, Int32.sub_add_cancel], nI_add]
  refine Sp.of dk_Rdr_takesSign ok_Rdr_takesSign rfl (g_ld rfl rfl rfl (g_c rfl rfl (g_if rfl rfl (fun zc2 => (g_ld rfl rfl rfl (g_dup rfl rfl (g_gi rfl rfl rfl rfl rfl (g_ld rfl rfl rfl (g_gr rfl rfl rfl rfl rfl (g_ld rfl rfl rfl (g_cv rfl (s_parametersOf (by decide)) (by omega) rfl rfl rfl rfl rfl rfl rfl rfl rfl (z_k1 (g_c rfl rfl (g_bin rfl rfl (g_bin rfl rfl (g_pi rfl rfl rfl rfl rfl rfl rfl (g_ld rfl rfl rfl (g_gi rfl rfl rfl rfl rfl (g_if rfl rfl (fun zc30 => ?_) (fun zc30 => (g_ld rfl rfl rfl (g_c rfl rfl (g_pi rfl rfl rfl rfl rfl rfl rfl ?_)))))))))))))))))))) (fun zc2 => (g_c rfl rfl (g_ri rfl rfl rfl ?_))))))
  · rw [ho, hP, e1]
    rw [ui_at, pk_us, ho, hP, e1] at zc30
    have hne : ¬ o + bP B s = 0 := fun e => zc30 (by rw [e]; rfl)
    have hk6 : (z_ui S 17 4 (nI (o + bP B s))).1 10 6 = nI k := by rw [ui_ne (by decide)]; exact h.2.2.2.2.1
    have hp3 : (z_ui S 17 4 (nI (o + bP B s))).1 17 3 = nI p := by rw [ui_at, pk_un (by decide)]; exact h3
    refine (g_ld rfl rfl rfl (g_gr rfl rfl rfl rfl rfl (g_ld rfl rfl rfl (g_gi rfl rfl rfl rfl rfl (g_ld rfl rfl rfl (g_cv rfl (s_addSign (k := k) (p := p) hk hk6 hp hp3) (by omega) rfl rfl rfl rfl rfl rfl rfl rfl rfl (fun zv47 zS47 zh47 => ?_)))))))
    obtain ⟨rfl, rfl⟩ := zh47
    refine (g_ri rfl rfl ?_ ?_)
    · rfl
    · refine ⟨rfl, (((Ag.rf.ui (by decide)).ui (by decide)).ui (by decide)).ui (by decide), DfX.sign (h.ag (fun i _ _ => ui_ne (by omega))) hp hk, ?_, ?_, ?_, ?_⟩
      · rw [ui_ne (by decide), ui_ne (by decide), ui_ne (by decide), ui_at, pk_us]
      · rw [if_neg hne, ui_ne (by decide), ui_ne (by decide), ui_ne (by decide), ui_at, pk_un (by decide)]
      · rw [ui_ne (by decide), ui_ne (by decide), ui_ne (by decide), ui_at, pk_un (by decide)]
      · rw [ui_ne (by decide), ui_ne (by decide), ui_ne (by decide), ui_at, pk_un (by decide)]
  · rw [ho, hP, e1]
    rw [ui_at, pk_us, ho, hP, e1] at zc30
    have he : o + bP B s = 0 := eq_n (b := 0) (Decidable.not_not.mp zc30)
    have hk6 : (z_ui (z_ui S 17 4 (nI (o + bP B s))) 17 1 4).1 10 6 = nI k := by rw [ui_ne (by decide), ui_ne (by decide)]; exact h.2.2.2.2.1
    have hp3 : (z_ui (z_ui S 17 4 (nI (o + bP B s))) 17 1 4).1 17 3 = nI p := by rw [ui_at, pk_un (by decide), ui_at, pk_un (by decide)]; exact h3
    refine (g_ld rfl rfl rfl (g_gr rfl rfl rfl rfl rfl (g_ld rfl rfl rfl (g_gi rfl rfl rfl rfl rfl (g_ld rfl rfl rfl (g_cv rfl (s_addSign (k := k) (p := p) hk hk6 hp hp3) (by omega) rfl rfl rfl rfl rfl rfl rfl rfl rfl (fun zv47 zS47 zh47 => ?_)))))))
    obtain ⟨rfl, rfl⟩ := zh47
    refine (g_ri rfl rfl ?_ ?_)
    · rfl
    · refine ⟨rfl, ((((Ag.rf.ui (by decide)).ui (by decide)).ui (by decide)).ui (by decide)).ui (by decide), DfX.sign (h.ag (fun i _ _ => by rw [ui_ne (by omega), ui_ne (by omega)])) hp hk, ?_, ?_, ?_, ?_⟩
      · rw [ui_ne (by decide), ui_ne (by decide), ui_ne (by decide), ui_at, pk_un (by decide), ui_at, pk_us]
      · rw [if_pos he, ui_ne (by decide), ui_ne (by decide), ui_ne (by decide), ui_at, pk_us]
      · rw [ui_ne (by decide), ui_ne (by decide), ui_ne (by decide), ui_at, pk_un (by decide), ui_at, pk_un (by decide)]
      · rw [ui_ne (by decide), ui_ne (by decide), ui_ne (by decide), ui_at, pk_un (by decide), ui_at, pk_un (by decide)]
  · exfalso
    have hne : nI s ≠ -1 := by
      have : ∀ s, s < 6 → nI s ≠ -1 := by decide
      exact this s hs
    exact zc2 hne
end
