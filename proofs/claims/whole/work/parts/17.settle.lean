/-! toldOfClass, goRound, settle -/
theorem or_12 : ∀ a, a < 4 → ∀ b, b < 4 → ∀ c, c < 4 → ∀ d, d < 4 → nI (a + 4 * b) ||| nI (c + 4 * d) = nI ((a ||| c) + 4 * (b ||| d)) := by decide +kernel
theorem and_3 : ∀ a, a < 4 → ∀ b, b < 4 → nI (a + 4 * b) &&& 3 = nI a ∧ (nI (a + 4 * b) >>> (2 &&& 31)) &&& 3 = nI b := by decide +kernel
theorem orp_0 (a : Nat × Nat) : orp a (0, 0) = a := by simp [orp]
theorem KdX.ag {S S' : zS} {kd : Nat → Nat} (h : KdX S kd) (hk : S'.1 19 = S.1 19) : KdX S' kd := ⟨h.1, fun p hp => by rw [hk]; exact h.2 p hp⟩
theorem WyR.ag {S S' : zS} {r : Nat} {V : Nat → Nat} (h : WyR S r V) (hk : S'.1 (r + 1) = S.1 (r + 1)) : WyR S' r V := ⟨h.1, fun p hp => by rw [hk]; exact h.2 p hp⟩
section
variable {l : Launch} {D : va_G} {ad : Nat → Nat} {cA : ClassId} {d r q n : Nat} {x z : Int32} {S S0 : zS} {B : Bk} {V kd : Nat → Nat}
theorem s_toldByE (hr : (r = 30 ∧ q = 33) ∨ (r = 34 ∧ q = 37)) (hB : BkX S 3 B) (hW : WfB B) (hV : WyR S r V) {p w : Nat} (hp : p < 16) (hw : w < 4) {xp xw : Int32} (hxp : xp = nI p) (hxw : xw = nI w) : Sp (l, wX, D, ad, cA) 2 m_Ways_toldBy [.ref r, .int xp, .int xw] S (tdPost S q (tl (bP B) V (bT B p) [w])) := by
  subst hxp
  subst hxw
  exact s_toldBy hr hB hW hV hp hw
theorem lp_toldOfClass (hr : (r = 30 ∧ q = 33) ∨ (r = 34 ∧ q = 37)) (hB : BkX S0 3 B) (hW : WfB B) (hV : WyR S0 r V) (hK : KdX S0 kd) {c h : Nat} (hc : c < 4) (hh : h < 4096) : ∀ (k m : Nat) (S : zS) (w6 : Option Value), bM B c - m = k → m ≤ bM B c → Ag [q] S0 S → Go (l, wX, D, ad, cA) 3 m_Ways_toldOfClass (tdPost S0 q (tc B V (kdh kd h) c)) 14 [some (.ref r), some (.int (nI c)), some (.ref 19), some (.int (nI h)), some (.int (nI ((tcm B V (kdh kd h) c m).1 + 4 * (tcm B V (kdh kd h) c m).2))), some (.int (nI m)), w6] [] S := by
  have hr0 := hr
  rcases hr with ⟨rfl, rfl⟩ | ⟨rfl, rfl⟩
  · intro k
    induction k using Nat.strongRecOn with
    | ind k ih =>
      intro m S w6 hk hm hA
      have hB2 : BkX S 3 B := hB.ag (fun k h3 h9 => hA.1 k (by simp; omega))
      have hV2 : WyR S 30 V := hV.ag (hA.1 _ (by decide))
      have hK2 : KdX S kd := hK.ag (hA.1 _ (by decide))
      have hM := hW.2.2.2.1 c
      have e1 : f_mem S 3 (nI c) = nI (bM B c) := bk_mem hB2 hW (by omega)
      have e2 : 3 * nI c + nI m = nI (3 * c + m) := by rw [show (3 : Int32) = nI 3 from rfl, pk_mul, nI_add]
      have ht := tcm_lt (B := B) (V := V) (kd := kdh kd h) hV.1 c m
      refine (g_ld rfl rfl rfl (g_ld rfl rfl rfl (g_gr rfl rfl rfl rfl rfl (g_ld rfl rfl rfl (g_cv rfl (s_membersOf (by decide)) (by omega) rfl rfl rfl rfl rfl rfl rfl rfl rfl (z_k1 (g_if rfl rfl (fun zc24 => (g_ld rfl rfl rfl (g_ri rfl rfl rfl ?_))) (fun zc24 => (g_ld rfl rfl rfl (g_ld rfl rfl rfl (g_cs rfl (s_placeOf) (by omega) rfl rfl rfl rfl rfl rfl (z_k1 (g_st rfl rfl rfl rfl rfl ?_)))))))))))))
      · rw [e1] at zc24
        have := le_n zc24
        have em : m = bM B c := by omega
        subst em
        exact ⟨rfl, hA⟩
      · rw [e1] at zc24
        have hlt := nle_n zc24
        rw [e2]
        have hp : 3 * c + m < 12 := by omega
        have hkw : f_kw (S.1 19 (nI (3 * c + m)).toNatClampNeg) = nI (kwn (kd (3 * c + m))) := by
          rw [nI_clamp (by omega), hK2.2 _ hp]
          exact kw_eq _ (hK.1 _)
        refine (g_ld rfl rfl rfl (g_ld rfl rfl rfl (g_bin rfl rfl (g_c rfl rfl (g_bin rfl rfl (g_if rfl rfl (fun zc41 => (g_inc rfl rfl rfl rfl (g_go rfl ?_))) (fun zc41 => (g_ld rfl rfl rfl (g_ld rfl rfl rfl (g_len rfl rfl rfl (g_if rfl rfl (fun zc48 => (g_inc rfl rfl rfl rfl (g_go rfl ?_))) (fun zc48 => (g_ld rfl rfl rfl (g_ld rfl rfl rfl (g_ld rfl rfl rfl (g_ld rfl rfl rfl (g_ld rfl rfl rfl (g_ald rfl rfl rfl ?_ (g_cs rfl (s_kindWays) (by omega) rfl rfl rfl rfl rfl rfl (z_k1 (g_cv rfl (s_toldByE hr0 hB2 hW hV2 (p := 3 * c + m) (w := kwn (kd (3 * c + m))) (by omega) (kwn_lt _) rfl hkw) (by omega) rfl rfl rfl rfl rfl rfl rfl rfl rfl (fun zv63 zS63 zh63 => ?_))))))))))))))))))))))
        · rw [hid_bit hh hp] at zc41
          have hb : h / 2 ^ (3 * c + m) % 2 = 1 := by
            rcases Nat.mod_two_eq_zero_or_one (h / 2 ^ (3 * c + m)) with e | e
            · rw [e] at zc41; exact absurd rfl zc41
            · exact e
          have et : tcm B V (kdh kd h) c (m + 1) = tcm B V (kdh kd h) c m := by
            rw [tcm, show kdh kd h (3 * c + m) = 3 from if_pos hb, show kwn 3 = 0 from rfl, tl_0 _ _ (by simp), orp_0]
          have := ih _ (by omega) (m + 1) S (some (.int (nI (3 * c + m)))) rfl hlt hA
          rw [et, nI_succ] at this
          exact this
        · exact absurd zc48 (nI_ge hp (by omega))
        · exact vp_in_nI hp (by omega)
        · obtain ⟨rfl, hA3⟩ := zh63
          rw [hid_bit hh hp] at zc41
          have hb : ¬ h / 2 ^ (3 * c + m) % 2 = 1 := fun e => by rw [e] at zc41; exact zc41 (by decide)
          have et : tcm B V (kdh kd h) c (m + 1) = orp (tcm B V (kdh kd h) c m) (tl (bP B) V (bT B (3 * c + m)) [kwn (kd (3 * c + m))]) := by
            rw [tcm, show kdh kd h (3 * c + m) = kd (3 * c + m) from if_neg hb]
          have ht2 := tl_lt (P := bP B) hV.1 (bT B (3 * c + m)) [kwn (kd (3 * c + m))] (by simpa using kwn_lt _)
          refine (g_bin rfl rfl (g_st rfl rfl rfl rfl rfl (g_inc rfl rfl rfl rfl (g_go rfl ?_))))
          rw [or_12 _ ht.1 _ ht.2 _ ht2.1 _ ht2.2]
          have := ih _ (by omega) (m + 1) zS63 (some (.int (nI (3 * c + m)))) rfl hlt (hA.tr hA3)
          rw [et, nI_succ] at this
          exact this
  · intro k
    induction k using Nat.strongRecOn with
    | ind k ih =>
      intro m S w6 hk hm hA
      have hB2 : BkX S 3 B := hB.ag (fun k h3 h9 => hA.1 k (by simp; omega))
      have hV2 : WyR S 34 V := hV.ag (hA.1 _ (by decide))
      have hK2 : KdX S kd := hK.ag (hA.1 _ (by decide))
      have hM := hW.2.2.2.1 c
      have e1 : f_mem S 3 (nI c) = nI (bM B c) := bk_mem hB2 hW (by omega)
      have e2 : 3 * nI c + nI m = nI (3 * c + m) := by rw [show (3 : Int32) = nI 3 from rfl, pk_mul, nI_add]
      have ht := tcm_lt (B := B) (V := V) (kd := kdh kd h) hV.1 c m
      refine (g_ld rfl rfl rfl (g_ld rfl rfl rfl (g_gr rfl rfl rfl rfl rfl (g_ld rfl rfl rfl (g_cv rfl (s_membersOf (by decide)) (by omega) rfl rfl rfl rfl rfl rfl rfl rfl rfl (z_k1 (g_if rfl rfl (fun zc24 => (g_ld rfl rfl rfl (g_ri rfl rfl rfl ?_))) (fun zc24 => (g_ld rfl rfl rfl (g_ld rfl rfl rfl (g_cs rfl (s_placeOf) (by omega) rfl rfl rfl rfl rfl rfl (z_k1 (g_st rfl rfl rfl rfl rfl ?_)))))))))))))
      · rw [e1] at zc24
        have := le_n zc24
        have em : m = bM B c := by omega
        subst em
        exact ⟨rfl, hA⟩
      · rw [e1] at zc24
        have hlt := nle_n zc24
        rw [e2]
        have hp : 3 * c + m < 12 := by omega
        have hkw : f_kw (S.1 19 (nI (3 * c + m)).toNatClampNeg) = nI (kwn (kd (3 * c + m))) := by
          rw [nI_clamp (by omega), hK2.2 _ hp]
          exact kw_eq _ (hK.1 _)
        refine (g_ld rfl rfl rfl (g_ld rfl rfl rfl (g_bin rfl rfl (g_c rfl rfl (g_bin rfl rfl (g_if rfl rfl (fun zc41 => (g_inc rfl rfl rfl rfl (g_go rfl ?_))) (fun zc41 => (g_ld rfl rfl rfl (g_ld rfl rfl rfl (g_len rfl rfl rfl (g_if rfl rfl (fun zc48 => (g_inc rfl rfl rfl rfl (g_go rfl ?_))) (fun zc48 => (g_ld rfl rfl rfl (g_ld rfl rfl rfl (g_ld rfl rfl rfl (g_ld rfl rfl rfl (g_ld rfl rfl rfl (g_ald rfl rfl rfl ?_ (g_cs rfl (s_kindWays) (by omega) rfl rfl rfl rfl rfl rfl (z_k1 (g_cv rfl (s_toldByE hr0 hB2 hW hV2 (p := 3 * c + m) (w := kwn (kd (3 * c + m))) (by omega) (kwn_lt _) rfl hkw) (by omega) rfl rfl rfl rfl rfl rfl rfl rfl rfl (fun zv63 zS63 zh63 => ?_))))))))))))))))))))))
        · rw [hid_bit hh hp] at zc41
          have hb : h / 2 ^ (3 * c + m) % 2 = 1 := by
            rcases Nat.mod_two_eq_zero_or_one (h / 2 ^ (3 * c + m)) with e | e
            · rw [e] at zc41; exact absurd rfl zc41
            · exact e
          have et : tcm B V (kdh kd h) c (m + 1) = tcm B V (kdh kd h) c m := by
            rw [tcm, show kdh kd h (3 * c + m) = 3 from if_pos hb, show kwn 3 = 0 from rfl, tl_0 _ _ (by simp), orp_0]
          have := ih _ (by omega) (m + 1) S (some (.int (nI (3 * c + m)))) rfl hlt hA
          rw [et, nI_succ] at this
          exact this
        · exact absurd zc48 (nI_ge hp (by omega))
        · exact vp_in_nI hp (by omega)
        · obtain ⟨rfl, hA3⟩ := zh63
          rw [hid_bit hh hp] at zc41
          have hb : ¬ h / 2 ^ (3 * c + m) % 2 = 1 := fun e => by rw [e] at zc41; exact zc41 (by decide)
          have et : tcm B V (kdh kd h) c (m + 1) = orp (tcm B V (kdh kd h) c m) (tl (bP B) V (bT B (3 * c + m)) [kwn (kd (3 * c + m))]) := by
            rw [tcm, show kdh kd h (3 * c + m) = kd (3 * c + m) from if_neg hb]
          have ht2 := tl_lt (P := bP B) hV.1 (bT B (3 * c + m)) [kwn (kd (3 * c + m))] (by simpa using kwn_lt _)
          refine (g_bin rfl rfl (g_st rfl rfl rfl rfl rfl (g_inc rfl rfl rfl rfl (g_go rfl ?_))))
          rw [or_12 _ ht.1 _ ht.2 _ ht2.1 _ ht2.2]
          have := ih _ (by omega) (m + 1) zS63 (some (.int (nI (3 * c + m)))) rfl hlt (hA.tr hA3)
          rw [et, nI_succ] at this
          exact this
theorem s_toldOfClass (hr : (r = 30 ∧ q = 33) ∨ (r = 34 ∧ q = 37)) (hB : BkX S 3 B) (hW : WfB B) (hV : WyR S r V) (hK : KdX S kd) {c h : Nat} (hc : c < 4) (hh : h < 4096) : Sp (l, wX, D, ad, cA) 3 m_Ways_toldOfClass [.ref r, .int (nI c), .ref 19, .int (nI h)] S (tdPost S q (tc B V (kdh kd h) c)) := by
  have hr0 := hr
  rcases hr with ⟨rfl, rfl⟩ | ⟨rfl, rfl⟩
  all_goals
    refine Sp.of dk_Ways_toldOfClass ok_Ways_toldOfClass rfl (g_ld rfl rfl rfl (g_c rfl rfl (g_ld rfl rfl rfl (g_bin rfl rfl (g_c rfl rfl (g_cv rfl (s_toldByE hr0 hB hW hV (p := 12 + c) (w := 1) (by omega) (by omega) (nI_add 12 c) rfl) (by omega) rfl rfl rfl rfl rfl rfl rfl rfl rfl (fun zv6 zS6 zh6 => ?_)))))))
    obtain ⟨rfl, hA3⟩ := zh6
    refine (g_st rfl rfl rfl rfl rfl (g_c rfl rfl (g_st rfl rfl rfl rfl rfl ?_)))
    exact lp_toldOfClass hr0 hB hW hV hK hc hh _ 0 zS6 none rfl (Nat.zero_le _) hA3
/-! a round -/
def chb (F V : Nat → Nat) (n : Nat) : Bool := (List.range n).any (fun j => decide (F j ≠ V j))
theorem chb_s {F V : Nat → Nat} {n : Nat} : chb F V (n + 1) = (chb F V n || decide (F n ≠ V n)) := by
  unfold chb
  rw [List.range_succ, List.any_append]
  simp
def grPost (S0 : zS) (r : Nat) (F V : Nat → Nat) : Value → zS → Prop := fun v S' => v = .int (b2 (chb F V 8 = true)) ∧ WyR S' r F ∧ Ag [r + 1, r + 2, r + 3] S0 S'
theorem b2_or {P Q : Prop} [Decidable P] [Decidable Q] [Decidable (P ∨ Q)] : b2 P ||| b2 Q = b2 (P ∨ Q) := by
  unfold b2
  by_cases hp : P <;> by_cases hq : Q <;> simp [hp, hq]
theorem b2_or1 {P : Prop} [Decidable P] : b2 P ||| 1 = 1 := by unfold b2; split <;> decide
theorem b2_or0 {P : Prop} [Decidable P] : b2 P ||| 0 = b2 P := by unfold b2; split <;> decide
theorem lp_goRound {q1 q2 : Nat} (hr : (r = 30 ∧ q = 33) ∨ (r = 34 ∧ q = 37)) (hq1 : q1 = r + 1) (hq2 : q2 = r + 2) (hB : BkX S0 3 B) (hW : WfB B) (hV : WyR S0 r V) (hK : KdX S0 kd) {h : Nat} (hh : h < 4096) : ∀ (k c : Nat) (S : zS) (w5 w6 : Option Value), 4 - c = k → c ≤ 4 → Ag [q2, q] S0 S → (∀ j, j < 2 * c → S.1 q2 j = nI (Fw B (kdh kd h) V j)) → Go (l, wX, D, ad, cA) 4 m_Ways_goRound (grPost S0 r (Fw B (kdh kd h) V) V) 5 [some (.ref r), some (.ref 19), some (.int (nI h)), some (.int (b2 (chb (Fw B (kdh kd h) V) V (2 * c) = true))), some (.int (nI c)), w5, w6] [] S := by
  have hr0 := hr
  rcases hr with ⟨rfl, rfl⟩ | ⟨rfl, rfl⟩
  · subst hq1
    subst hq2
    intro k
    induction k using Nat.strongRecOn with
    | ind k ih =>
      intro c S w5 w6 hk hc hA hN
      have hB2 : BkX S 3 B := hB.ag (fun k h3 h9 => hA.1 k (by simp; omega))
      have hV2 : WyR S 30 V := hV.ag (hA.1 _ (by decide))
      have hK2 : KdX S kd := hK.ag (hA.1 _ (by decide))
      refine (g_ld rfl rfl rfl (g_c rfl rfl (g_if rfl rfl (fun zc8 => (g_ld rfl rfl rfl (g_gr rfl rfl rfl rfl rfl (g_c rfl rfl (g_ld rfl rfl rfl (g_gr rfl rfl rfl rfl rfl (g_c rfl rfl (g_c rfl rfl (g_cpy rfl rfl rfl rfl rfl (by decide) (by decide) (by decide) (by decide) (by decide) (by decide) (g_ld rfl rfl rfl (g_ri rfl rfl ?_ ?_))))))))))) (fun zc8 => ?_))))
      · have := le_n (a := 4) zc8
        have ec : c = 4 := by omega
        subst ec
        exact b2_nar
      · have := le_n (a := 4) zc8
        have ec : c = 4 := by omega
        subst ec
        refine ⟨rfl, ⟨fun j => Fw_lt hV.1 j, fun j hj => ?_⟩, (hA.mono (by simp)).uf (by decide)⟩
        rw [uf_at]
        show va_cpy (S.1 32) (S.1 31) 0 0 8 j = _
        rw [pk_cpy_in (Nat.zero_le _) (by omega)]
        simpa using hN j (by omega)
      · have hlt := nle_n (a := 4) zc8
        have ht := tcm_lt (B := B) (V := V) (kd := kdh kd h) hV.1 c (bM B c)
        refine (g_ld rfl rfl rfl (g_ld rfl rfl rfl (g_ld rfl rfl rfl (g_ld rfl rfl rfl (g_cv rfl (s_toldOfClass hr0 hB2 hW hV2 hK2 hlt hh) (by omega) rfl rfl rfl rfl rfl rfl rfl rfl rfl (fun zv16 zS16 zh16 => ?_))))))
        obtain ⟨rfl, hA3⟩ := zh16
        have e2 : 2 * nI c = nI (2 * c) := by rw [show (2 : Int32) = nI 2 from rfl, pk_mul]
        refine (g_st rfl rfl rfl rfl rfl (g_c rfl rfl (g_ld rfl rfl rfl (g_bin rfl rfl (g_st rfl rfl rfl rfl rfl ?_)))))
        rw [e2]
        have e3 := and_3 _ ht.1 _ ht.2
        have e4 : (nI (2 * c) + 1).toNatClampNeg = 2 * c + 1 := by rw [← nI_succ, nI_clamp (by omega)]
        have e5 : (nI (2 * c)).toNatClampNeg = 2 * c := nI_clamp (by omega)
        refine (g_ld rfl rfl rfl (g_gr rfl rfl rfl rfl rfl (g_ld rfl rfl rfl (g_ld rfl rfl rfl (g_c rfl rfl (g_bin rfl rfl (g_ast rfl rfl rfl ?_ (g_ld rfl rfl rfl (g_gr rfl rfl rfl rfl rfl (g_ld rfl rfl rfl (g_c rfl rfl (g_bin rfl rfl (g_ld rfl rfl rfl (g_c rfl rfl (g_bin rfl rfl (g_c rfl rfl (g_bin rfl rfl (g_ast rfl rfl rfl ?_ ?_))))))))))))))))))
        · exact vp_in_nI (by omega) (by omega)
        · rw [← nI_succ]; exact vp_in_nI (by omega) (by omega)
        · rw [show (tc B V (kdh kd h) c) = tcm B V (kdh kd h) c (bM B c) from rfl, e3.1, e3.2, e4, e5]
          have hAT : Ag [32, 33] S0 (z_ui (z_ui zS16 32 (2 * c) (nI (tcm B V (kdh kd h) c (bM B c)).1)) 32 (2 * c + 1) (nI (tcm B V (kdh kd h) c (bM B c)).2)) := ((hA.tr (hA3.mono (by simp))).ui (by decide)).ui (by decide)
          have f1 : (z_ui (z_ui zS16 32 (2 * c) (nI (tcm B V (kdh kd h) c (bM B c)).1)) 32 (2 * c + 1) (nI (tcm B V (kdh kd h) c (bM B c)).2)).1 32 (2 * c) = nI (Fw B (kdh kd h) V (2 * c)) := by
            rw [ui_at, pk_un (by omega), ui_at, pk_us]
            unfold Fw
            rw [if_pos (by omega), if_pos (by omega), show 2 * c / 2 = c by omega]
            rfl
          have f2 : (z_ui (z_ui zS16 32 (2 * c) (nI (tcm B V (kdh kd h) c (bM B c)).1)) 32 (2 * c + 1) (nI (tcm B V (kdh kd h) c (bM B c)).2)).1 32 (2 * c + 1) = nI (Fw B (kdh kd h) V (2 * c + 1)) := by
            rw [ui_at, pk_us]
            unfold Fw
            rw [if_pos (by omega), if_neg (by omega), show (2 * c + 1) / 2 = c by omega]
            rfl
          have f3 : ∀ j, j < 2 * c → (z_ui (z_ui zS16 32 (2 * c) (nI (tcm B V (kdh kd h) c (bM B c)).1)) 32 (2 * c + 1) (nI (tcm B V (kdh kd h) c (bM B c)).2)).1 32 j = nI (Fw B (kdh kd h) V j) := by
            intro j hj
            rw [ui_at, pk_un (by omega), ui_at, pk_un (by omega), hA3.1 _ (by decide)]
            exact hN j hj
          generalize z_ui (z_ui zS16 32 (2 * c) (nI (tcm B V (kdh kd h) c (bM B c)).1)) 32 (2 * c + 1) (nI (tcm B V (kdh kd h) c (bM B c)).2) = T at hAT f1 f2 f3 ⊢
          have f4 : ∀ j, j < 8 → T.1 31 j = nI (V j) := fun j hj => by rw [hAT.1 _ (by decide)]; exact hV.2 j hj
          have f5 : ∀ j, j < 2 * (c + 1) → T.1 32 j = nI (Fw B (kdh kd h) V j) := by
            intro j hj
            rcases (show j < 2 * c ∨ j = 2 * c ∨ j = 2 * c + 1 by omega) with g | g | g
            · exact f3 j g
            · rw [g]; exact f1
            · rw [g]; exact f2
          have hF : ∀ j, Fw B (kdh kd h) V j < 4 := fun j => Fw_lt hV.1 j
          have hne : ∀ j, j < 8 → (nI (Fw B (kdh kd h) V j) = nI (V j) ↔ Fw B (kdh kd h) V j = V j) := fun j hj => nI_eq (by have := hF j; omega) (by have := hV.1 j; omega)
          have go := fun w5 w6 => ih _ (by omega) (c + 1) T w5 w6 rfl hlt hAT f5
          have hch : chb (Fw B (kdh kd h) V) V (2 * (c + 1)) = ((chb (Fw B (kdh kd h) V) V (2 * c) || decide (Fw B (kdh kd h) V (2 * c) ≠ V (2 * c))) || decide (Fw B (kdh kd h) V (2 * c + 1) ≠ V (2 * c + 1))) := by
            rw [show 2 * (c + 1) = 2 * c + 1 + 1 by omega, chb_s, chb_s]
          refine (g_ld rfl rfl rfl (g_ld rfl rfl rfl (g_gr rfl rfl rfl rfl rfl (g_ld rfl rfl rfl (g_ald rfl rfl rfl ?_ (g_ld rfl rfl rfl (g_gr rfl rfl rfl rfl rfl (g_ld rfl rfl rfl (g_ald rfl rfl rfl ?_ (g_if rfl rfl (fun zc68 => (g_c rfl rfl (g_go rfl (g_bin rfl rfl (g_st rfl rfl rfl rfl rfl (g_inc rfl rfl rfl rfl (g_go rfl ?_))))))) (fun zc68 => (g_ld rfl rfl rfl (g_gr rfl rfl rfl rfl rfl (g_ld rfl rfl rfl (g_c rfl rfl (g_bin rfl rfl (g_ald rfl rfl rfl ?_ (g_ld rfl rfl rfl (g_gr rfl rfl rfl rfl rfl (g_ld rfl rfl rfl (g_c rfl rfl (g_bin rfl rfl (g_ald rfl rfl rfl ?_ (g_if rfl rfl (fun zc89 => (g_c rfl rfl (g_bin rfl rfl (g_st rfl rfl rfl rfl rfl (g_inc rfl rfl rfl rfl (g_go rfl ?_)))))) (fun zc89 => (g_c rfl rfl (g_go rfl (g_bin rfl rfl (g_st rfl rfl rfl rfl rfl (g_inc rfl rfl rfl rfl (g_go rfl ?_)))))))))))))))))))))))))))))))
          · exact vp_in_nI (by omega) (by omega)
          · exact vp_in_nI (by omega) (by omega)
          · rw [e5, f1, f4 _ (by omega)] at zc68
            have g : Fw B (kdh kd h) V (2 * c) ≠ V (2 * c) := fun q => zc68 ((hne _ (by omega)).mpr q)
            have := go (some (.int (nI ((tcm B V (kdh kd h) c (bM B c)).1 + 4 * (tcm B V (kdh kd h) c (bM B c)).2)))) (some (.int (nI (2 * c))))
            rw [nI_succ, b2_t (show chb (Fw B (kdh kd h) V) V (2 * (c + 1)) = true by rw [hch]; simp [g])] at this
            rw [b2_or1]
            exact this
          · rw [← nI_succ]; exact vp_in_nI (by omega) (by omega)
          · rw [← nI_succ]; exact vp_in_nI (by omega) (by omega)
          · rw [e5, f1, f4 _ (by omega)] at zc68
            rw [e4, f2, f4 _ (by omega)] at zc89
            have g1 := (hne _ (by omega)).mp (Decidable.not_not.mp zc68)
            have g2 := (hne _ (by omega)).mp zc89
            have := go (some (.int (nI ((tcm B V (kdh kd h) c (bM B c)).1 + 4 * (tcm B V (kdh kd h) c (bM B c)).2)))) (some (.int (nI (2 * c))))
            rw [nI_succ, hch] at this
            simp only [g1, g2, ne_eq, not_true, decide_false, Bool.or_false] at this
            rw [b2_or0]
            exact this
          · rw [e5, f1, f4 _ (by omega)] at zc68
            rw [e4, f2, f4 _ (by omega)] at zc89
            have g : Fw B (kdh kd h) V (2 * c + 1) ≠ V (2 * c + 1) := fun q => zc89 ((hne _ (by omega)).mpr q)
            have := go (some (.int (nI ((tcm B V (kdh kd h) c (bM B c)).1 + 4 * (tcm B V (kdh kd h) c (bM B c)).2)))) (some (.int (nI (2 * c))))
            rw [nI_succ, b2_t (show chb (Fw B (kdh kd h) V) V (2 * (c + 1)) = true by rw [hch]; simp [g])] at this
            rw [b2_or1]
            exact this
  · subst hq1
    subst hq2
    intro k
    induction k using Nat.strongRecOn with
    | ind k ih =>
      intro c S w5 w6 hk hc hA hN
      have hB2 : BkX S 3 B := hB.ag (fun k h3 h9 => hA.1 k (by simp; omega))
      have hV2 : WyR S 34 V := hV.ag (hA.1 _ (by decide))
      have hK2 : KdX S kd := hK.ag (hA.1 _ (by decide))
      refine (g_ld rfl rfl rfl (g_c rfl rfl (g_if rfl rfl (fun zc8 => (g_ld rfl rfl rfl (g_gr rfl rfl rfl rfl rfl (g_c rfl rfl (g_ld rfl rfl rfl (g_gr rfl rfl rfl rfl rfl (g_c rfl rfl (g_c rfl rfl (g_cpy rfl rfl rfl rfl rfl (by decide) (by decide) (by decide) (by decide) (by decide) (by decide) (g_ld rfl rfl rfl (g_ri rfl rfl ?_ ?_))))))))))) (fun zc8 => ?_))))
      · have := le_n (a := 4) zc8
        have ec : c = 4 := by omega
        subst ec
        exact b2_nar
      · have := le_n (a := 4) zc8
        have ec : c = 4 := by omega
        subst ec
        refine ⟨rfl, ⟨fun j => Fw_lt hV.1 j, fun j hj => ?_⟩, (hA.mono (by simp)).uf (by decide)⟩
        rw [uf_at]
        show va_cpy (S.1 36) (S.1 35) 0 0 8 j = _
        rw [pk_cpy_in (Nat.zero_le _) (by omega)]
        simpa using hN j (by omega)
      · have hlt := nle_n (a := 4) zc8
        have ht := tcm_lt (B := B) (V := V) (kd := kdh kd h) hV.1 c (bM B c)
        refine (g_ld rfl rfl rfl (g_ld rfl rfl rfl (g_ld rfl rfl rfl (g_ld rfl rfl rfl (g_cv rfl (s_toldOfClass hr0 hB2 hW hV2 hK2 hlt hh) (by omega) rfl rfl rfl rfl rfl rfl rfl rfl rfl (fun zv16 zS16 zh16 => ?_))))))
        obtain ⟨rfl, hA3⟩ := zh16
        have e2 : 2 * nI c = nI (2 * c) := by rw [show (2 : Int32) = nI 2 from rfl, pk_mul]
        refine (g_st rfl rfl rfl rfl rfl (g_c rfl rfl (g_ld rfl rfl rfl (g_bin rfl rfl (g_st rfl rfl rfl rfl rfl ?_)))))
        rw [e2]
        have e3 := and_3 _ ht.1 _ ht.2
        have e4 : (nI (2 * c) + 1).toNatClampNeg = 2 * c + 1 := by rw [← nI_succ, nI_clamp (by omega)]
        have e5 : (nI (2 * c)).toNatClampNeg = 2 * c := nI_clamp (by omega)
        refine (g_ld rfl rfl rfl (g_gr rfl rfl rfl rfl rfl (g_ld rfl rfl rfl (g_ld rfl rfl rfl (g_c rfl rfl (g_bin rfl rfl (g_ast rfl rfl rfl ?_ (g_ld rfl rfl rfl (g_gr rfl rfl rfl rfl rfl (g_ld rfl rfl rfl (g_c rfl rfl (g_bin rfl rfl (g_ld rfl rfl rfl (g_c rfl rfl (g_bin rfl rfl (g_c rfl rfl (g_bin rfl rfl (g_ast rfl rfl rfl ?_ ?_))))))))))))))))))
        · exact vp_in_nI (by omega) (by omega)
        · rw [← nI_succ]; exact vp_in_nI (by omega) (by omega)
        · rw [show (tc B V (kdh kd h) c) = tcm B V (kdh kd h) c (bM B c) from rfl, e3.1, e3.2, e4, e5]
          have hAT : Ag [36, 37] S0 (z_ui (z_ui zS16 36 (2 * c) (nI (tcm B V (kdh kd h) c (bM B c)).1)) 36 (2 * c + 1) (nI (tcm B V (kdh kd h) c (bM B c)).2)) := ((hA.tr (hA3.mono (by simp))).ui (by decide)).ui (by decide)
          have f1 : (z_ui (z_ui zS16 36 (2 * c) (nI (tcm B V (kdh kd h) c (bM B c)).1)) 36 (2 * c + 1) (nI (tcm B V (kdh kd h) c (bM B c)).2)).1 36 (2 * c) = nI (Fw B (kdh kd h) V (2 * c)) := by
            rw [ui_at, pk_un (by omega), ui_at, pk_us]
            unfold Fw
            rw [if_pos (by omega), if_pos (by omega), show 2 * c / 2 = c by omega]
            rfl
          have f2 : (z_ui (z_ui zS16 36 (2 * c) (nI (tcm B V (kdh kd h) c (bM B c)).1)) 36 (2 * c + 1) (nI (tcm B V (kdh kd h) c (bM B c)).2)).1 36 (2 * c + 1) = nI (Fw B (kdh kd h) V (2 * c + 1)) := by
            rw [ui_at, pk_us]
            unfold Fw
            rw [if_pos (by omega), if_neg (by omega), show (2 * c + 1) / 2 = c by omega]
            rfl
          have f3 : ∀ j, j < 2 * c → (z_ui (z_ui zS16 36 (2 * c) (nI (tcm B V (kdh kd h) c (bM B c)).1)) 36 (2 * c + 1) (nI (tcm B V (kdh kd h) c (bM B c)).2)).1 36 j = nI (Fw B (kdh kd h) V j) := by
            intro j hj
            rw [ui_at, pk_un (by omega), ui_at, pk_un (by omega), hA3.1 _ (by decide)]
            exact hN j hj
          generalize z_ui (z_ui zS16 36 (2 * c) (nI (tcm B V (kdh kd h) c (bM B c)).1)) 36 (2 * c + 1) (nI (tcm B V (kdh kd h) c (bM B c)).2) = T at hAT f1 f2 f3 ⊢
          have f4 : ∀ j, j < 8 → T.1 35 j = nI (V j) := fun j hj => by rw [hAT.1 _ (by decide)]; exact hV.2 j hj
          have f5 : ∀ j, j < 2 * (c + 1) → T.1 36 j = nI (Fw B (kdh kd h) V j) := by
            intro j hj
            rcases (show j < 2 * c ∨ j = 2 * c ∨ j = 2 * c + 1 by omega) with g | g | g
            · exact f3 j g
            · rw [g]; exact f1
            · rw [g]; exact f2
          have hF : ∀ j, Fw B (kdh kd h) V j < 4 := fun j => Fw_lt hV.1 j
          have hne : ∀ j, j < 8 → (nI (Fw B (kdh kd h) V j) = nI (V j) ↔ Fw B (kdh kd h) V j = V j) := fun j hj => nI_eq (by have := hF j; omega) (by have := hV.1 j; omega)
          have go := fun w5 w6 => ih _ (by omega) (c + 1) T w5 w6 rfl hlt hAT f5
          have hch : chb (Fw B (kdh kd h) V) V (2 * (c + 1)) = ((chb (Fw B (kdh kd h) V) V (2 * c) || decide (Fw B (kdh kd h) V (2 * c) ≠ V (2 * c))) || decide (Fw B (kdh kd h) V (2 * c + 1) ≠ V (2 * c + 1))) := by
            rw [show 2 * (c + 1) = 2 * c + 1 + 1 by omega, chb_s, chb_s]
          refine (g_ld rfl rfl rfl (g_ld rfl rfl rfl (g_gr rfl rfl rfl rfl rfl (g_ld rfl rfl rfl (g_ald rfl rfl rfl ?_ (g_ld rfl rfl rfl (g_gr rfl rfl rfl rfl rfl (g_ld rfl rfl rfl (g_ald rfl rfl rfl ?_ (g_if rfl rfl (fun zc68 => (g_c rfl rfl (g_go rfl (g_bin rfl rfl (g_st rfl rfl rfl rfl rfl (g_inc rfl rfl rfl rfl (g_go rfl ?_))))))) (fun zc68 => (g_ld rfl rfl rfl (g_gr rfl rfl rfl rfl rfl (g_ld rfl rfl rfl (g_c rfl rfl (g_bin rfl rfl (g_ald rfl rfl rfl ?_ (g_ld rfl rfl rfl (g_gr rfl rfl rfl rfl rfl (g_ld rfl rfl rfl (g_c rfl rfl (g_bin rfl rfl (g_ald rfl rfl rfl ?_ (g_if rfl rfl (fun zc89 => (g_c rfl rfl (g_bin rfl rfl (g_st rfl rfl rfl rfl rfl (g_inc rfl rfl rfl rfl (g_go rfl ?_)))))) (fun zc89 => (g_c rfl rfl (g_go rfl (g_bin rfl rfl (g_st rfl rfl rfl rfl rfl (g_inc rfl rfl rfl rfl (g_go rfl ?_)))))))))))))))))))))))))))))))
          · exact vp_in_nI (by omega) (by omega)
          · exact vp_in_nI (by omega) (by omega)
          · rw [e5, f1, f4 _ (by omega)] at zc68
            have g : Fw B (kdh kd h) V (2 * c) ≠ V (2 * c) := fun q => zc68 ((hne _ (by omega)).mpr q)
            have := go (some (.int (nI ((tcm B V (kdh kd h) c (bM B c)).1 + 4 * (tcm B V (kdh kd h) c (bM B c)).2)))) (some (.int (nI (2 * c))))
            rw [nI_succ, b2_t (show chb (Fw B (kdh kd h) V) V (2 * (c + 1)) = true by rw [hch]; simp [g])] at this
            rw [b2_or1]
            exact this
          · rw [← nI_succ]; exact vp_in_nI (by omega) (by omega)
          · rw [← nI_succ]; exact vp_in_nI (by omega) (by omega)
          · rw [e5, f1, f4 _ (by omega)] at zc68
            rw [e4, f2, f4 _ (by omega)] at zc89
            have g1 := (hne _ (by omega)).mp (Decidable.not_not.mp zc68)
            have g2 := (hne _ (by omega)).mp zc89
            have := go (some (.int (nI ((tcm B V (kdh kd h) c (bM B c)).1 + 4 * (tcm B V (kdh kd h) c (bM B c)).2)))) (some (.int (nI (2 * c))))
            rw [nI_succ, hch] at this
            simp only [g1, g2, ne_eq, not_true, decide_false, Bool.or_false] at this
            rw [b2_or0]
            exact this
          · rw [e5, f1, f4 _ (by omega)] at zc68
            rw [e4, f2, f4 _ (by omega)] at zc89
            have g : Fw B (kdh kd h) V (2 * c + 1) ≠ V (2 * c + 1) := fun q => zc89 ((hne _ (by omega)).mpr q)
            have := go (some (.int (nI ((tcm B V (kdh kd h) c (bM B c)).1 + 4 * (tcm B V (kdh kd h) c (bM B c)).2)))) (some (.int (nI (2 * c))))
            rw [nI_succ, b2_t (show chb (Fw B (kdh kd h) V) V (2 * (c + 1)) = true by rw [hch]; simp [g])] at this
            rw [b2_or1]
            exact this
end
