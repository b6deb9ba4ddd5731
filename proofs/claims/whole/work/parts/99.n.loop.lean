/-! the law's loop -/
theorem and31 (x : Int32) : ∃ k, k < 32 ∧ x &&& 31 = nI k := by
  refine ⟨(x &&& 31).toBitVec.toNat, ?_, ?_⟩
  · rw [Int32.toBitVec_and, BitVec.toNat_and]
    exact Nat.lt_of_le_of_lt Nat.and_le_right (by decide)
  · refine Int32.toBitVec_inj.mp ?_
    show _ = BitVec.ofNat 32 _
    rw [BitVec.ofNat_toNat, BitVec.setWidth_eq]
theorem d_law32 : decode code 32 = .ok (.tableswitch 794 0 22 #[108, 131, 144, 157, 170, 203, 246, 289, 332, 355, 398, 431, 444, 477, 510, 553, 606, 675, 688, 731, 744, 757, 780], 108) := by decide +kernel
theorem lt5 : ∀ L, L < 5 → ∀ i, i < 5 → Int32.ofNat L - 5 < nI i := by decide
section
variable {p : Program} {l : Launch} {e : Env} {s : State} {m : MethodId} {below : List Frame} {meth : Method} {c : Code} {b L : Nat} {xs : Nat → Int32} {D : va_G} {cA : ClassId} {adX adM : Nat → Nat}
set_option maxHeartbeats 4000000 in
set_option maxRecDepth 20000 in
theorem law_loop (hL : L ≤ 2560) (F : lw_F p l s m meth c b L xs D cA adX adM) : ∀ (n i : Nat), i ≤ L → L + 1 ≤ i + n → ∀ (S T : zS) (mm : Mt), InvX S mm → InvM T mm → MOk mm → mR mm ≤ i → ∀ ls, lw_L b adX adM i ls → La p l e s m below meth c b D cA adX adM ls 18 [] S T := by
  intro n
  induction n with
  | zero => intro i h1 h2; exact absurd h2 (by omega)
  | succ n ih =>
    intro i hiL hin S T mm hx hy hm hr ls hl
    have d18 : decode code 18 = .ok (.iload_n 3, 1) := c_get (n := 19) oki_law rfl
    have d19 : decode code 19 = .ok (.aload_n 0, 1) := c_get (n := 20) oki_law rfl
    have d20 : decode code 20 = .ok (.arraylength, 1) := c_get (n := 21) oki_law rfl
    have d21 : decode code 21 = .ok (.iconst 5, 1) := c_get (n := 22) oki_law rfl
    have d22 : decode code 22 = .ok (.isub, 1) := c_get (n := 23) oki_law rfl
    have d23 : decode code 23 = .ok (.if_icmp .gt 809, 3) := c_get (n := 26) oki_law rfl
    have d26 : decode code 26 = .ok (.aload_n 0, 1) := c_get (n := 27) oki_law rfl
    have d27 : decode code 27 = .ok (.iload_n 3, 1) := c_get (n := 28) oki_law rfl
    have d28 : decode code 28 = .ok (.iaload, 1) := c_get (n := 29) oki_law rfl
    have d29 : decode code 29 = .ok (.bipush 31, 2) := c_get (n := 31) oki_law rfl
    have d31 : decode code 31 = .ok (.iand, 1) := c_get (n := 32) oki_law rfl
    have d826 : decode code 826 = .ok (.iinc 3 5, 3) := c_get (n := 829) oki_law rfl
    have d829 : decode code 829 = .ok (.goto (-811), 3) := c_get (n := 832) oki_law rfl
    have d832 : decode code 832 = .ok (.iconst 1, 1) := c_get (n := 833) oki_law rfl
    have d833 : decode code 833 = .ok (.ireturn, 1) := c_get (n := 834) oki_law rfl
    have d32 := d_law32
    have K : i + 5 ≤ L → ∀ S' T' m', InvX S' m' → InvM T' m' → MOk m' → mR m' ≤ mR mm + 1 → La p l e s m below meth c b D cA adX adM ls 826 [] S' T' := by
      intro hi S' T' m' hx' hy' hm' hr' H locs hP hP2 hS
      refine lv_iinc (v := nI (i + 5)) (lv' := [(3, .int (nI (i + 5))), (0, .ref b), (1, .ref (adX 0)), (2, .ref (adM 0))]) F.1.1 F.1.2.1 d826 hl (k := 3) rfl (by rw [show Int32.ofInt 5 = nI 5 from rfl, nI_add]) (by decide) rfl (fun ls' hl' => ?_)
      refine lv_goto (tgt := 18) F.1.1 F.1.2.1 d829 (by decide) ?_
      exact ih (i + 5) hi (by omega) S' T' m' hx' hy' hm' (by omega) ls' (lv_sub hl' [1, 2, 3, 0] rfl) H locs hP hP2 hS
    intro H locs hP hP2 hS
    obtain ⟨hx0, hb, hrt, hml, hown, hts, hX, hbl, hlocks, hgv⟩ := id F.1
    refine lv_iload_n hx0 hb d18 rfl (lv_at hl 3 rfl) ?_
    refine lv_aload_n hx0 hb d19 rfl (lv_at hl 0 rfl) ?_
    refine va_slen hx0 hb hX hbl (Nat.not_le.mpr hbl) hS d20 ?_
    refine lv_iconst (v := 5) hx0 hb d21 (by decide) ?_
    refine lv_isub hx0 hb d22 ?_
    refine lv_icmp_gt (tgt := 832) hx0 hb d23 (by decide) (fun cc => ?_) (fun cc => ?_)
    · refine lv_iconst (v := 1) hx0 hb d832 (by decide) ?_
      refine va_forget (fun q hq => hS.2.2 q hq) ?_
      refine W.widen (k := 600000) (n := 7302250) (by decide) (by decide) ?_
      exact lw_ret hx0 hb hrt hlocks d833
    · have hi : i + 5 ≤ L := by
        rcases Nat.lt_or_ge L 5 with q | q
        · exact absurd (lt5 L q i (by omega)) cc
        · obtain ⟨k, hk⟩ : ∃ k, L = k + 5 := ⟨L - 5, by omega⟩
          have e1 : Int32.ofNat L - 5 = nI k := by
            rw [hk, show Int32.ofNat (k + 5) = nI k + nI 5 from (nI_add k 5).symm]
            exact Int32.add_sub_cancel _ _
          rw [e1] at cc
          rcases Nat.lt_or_ge k i with q2 | q2
          · exact absurd (Int32.lt_iff_toInt_lt.mpr (by rw [nI_toInt (by omega), nI_toInt (by omega)]; omega)) cc
          · omega
      have K := K hi
      have hr4 : mR mm < 4096 := by omega
      refine lv_aload_n hx0 hb d26 rfl (lv_at hl 0 rfl) ?_
      refine lv_iload_n hx0 hb d27 rfl (lv_at hl 3 rfl) ?_
      refine va_sld hx0 hb hX hbl (Nat.not_le.mpr hbl) hS (vp_in_nI (by omega) (by omega)) d28 ?_
      refine lv_bipush (v := 31) hx0 hb d29 (by decide) ?_
      refine lv_iand hx0 hb d31 ?_
      obtain ⟨k, hk, ek⟩ := and31 (xs (nI i).toNatClampNeg)
      rw [ek]
      rcases (show k = 0 ∨ k = 1 ∨ k = 2 ∨ k = 3 ∨ k = 4 ∨ k = 5 ∨ k = 6 ∨ k = 7 ∨ k = 8 ∨ k = 9 ∨ k = 10 ∨ k = 11 ∨ k = 12 ∨ k = 13 ∨ k = 14 ∨ k = 15 ∨ k = 16 ∨ k = 17 ∨ k = 18 ∨ k = 19 ∨ k = 20 ∨ k = 21 ∨ k = 22 ∨ 23 ≤ k by omega) with rfl | rfl | rfl | rfl | rfl | rfl | rfl | rfl | rfl | rfl | rfl | rfl | rfl | rfl | rfl | rfl | rfl | rfl | rfl | rfl | rfl | rfl | rfl | hk2
      · exact lv_tableIn (tgt := 140) hx0 hb d32 (by decide) (by decide) rfl (by decide) (lc_letter F hl hi hL hx hy hm hr4 K H locs hP hP2 hS)
      · exact lv_tableIn (tgt := 163) hx0 hb d32 (by decide) (by decide) rfl (by decide) (lc_blank F hl hi hL hx hy hm hr4 K H locs hP hP2 hS)
      · exact lv_tableIn (tgt := 176) hx0 hb d32 (by decide) (by decide) rfl (by decide) (lc_fault F hl hi hL hx hy hm hr4 K H locs hP hP2 hS)
      · exact lv_tableIn (tgt := 189) hx0 hb d32 (by decide) (by decide) rfl (by decide) (lc_book F hl hi hL hx hy hm hr4 K H locs hP hP2 hS)
      · exact lv_tableIn (tgt := 202) hx0 hb d32 (by decide) (by decide) rfl (by decide) (lc_about F hl hi hL hx hy hm hr4 K H locs hP hP2 hS)
      · exact lv_tableIn (tgt := 235) hx0 hb d32 (by decide) (by decide) rfl (by decide) (lc_member F hl hi hL hx hy hm hr4 K H locs hP hP2 hS)
      · exact lv_tableIn (tgt := 278) hx0 hb d32 (by decide) (by decide) rfl (by decide) (lc_as F hl hi hL hx hy hm hr4 K H locs hP hP2 hS)
      · exact lv_tableIn (tgt := 321) hx0 hb d32 (by decide) (by decide) rfl (by decide) (lc_change F hl hi hL hx hy hm hr4 K H locs hP hP2 hS)
      · exact lv_tableIn (tgt := 364) hx0 hb d32 (by decide) (by decide) rfl (by decide) (lc_type F hl hi hL hx hy hm hr4 K H locs hP hP2 hS)
      · exact lv_tableIn (tgt := 387) hx0 hb d32 (by decide) (by decide) rfl (by decide) (lc_read F hl hi hL hx hy hm hr4 K H locs hP hP2 hS)
      · exact lv_tableIn (tgt := 430) hx0 hb d32 (by decide) (by decide) rfl (by decide) (lc_lift F hl hi hL hx hy hm hr4 K H locs hP hP2 hS)
      · exact lv_tableIn (tgt := 463) hx0 hb d32 (by decide) (by decide) rfl (by decide) (lc_rounds F hl hi hL hx hy hm hr4 K H locs hP hP2 hS)
      · exact lv_tableIn (tgt := 476) hx0 hb d32 (by decide) (by decide) rfl (by decide) (lc_sign F hl hi hL hx hy hm hr4 K H locs hP hP2 hS)
      · exact lv_tableIn (tgt := 509) hx0 hb d32 (by decide) (by decide) rfl (by decide) (lc_suits F hl hi hL hx hy hm hr4 K H locs hP hP2 hS)
      · exact lv_tableIn (tgt := 542) hx0 hb d32 (by decide) (by decide) rfl (by decide) (lc_stores F hl hi hL hx hy hm hr4 K H locs hP hP2 hS)
      · exact lv_tableIn (tgt := 585) hx0 hb d32 (by decide) (by decide) rfl (by decide) (lc_hide F hl hi hL hx hy hm hr4 K H locs hP hP2 hS)
      · exact lv_tableIn (tgt := 638) hx0 hb d32 (by decide) (by decide) rfl (by decide) (lc_see F hl hi hL hx hy hm hr4 K H locs hP hP2 hS)
      · exact lv_tableIn (tgt := 707) hx0 hb d32 (by decide) (by decide) rfl (by decide) (lc_forget F hl hi hL hx hy hm hr4 K H locs hP hP2 hS)
      · exact lv_tableIn (tgt := 720) hx0 hb d32 (by decide) (by decide) rfl (by decide) (lc_drawn F hl hi hL hx hy hm hr4 K H locs hP hP2 hS)
      · exact lv_tableIn (tgt := 763) hx0 hb d32 (by decide) (by decide) rfl (by decide) (lc_image F hl hi hL hx hy hm hr4 K H locs hP hP2 hS)
      · exact lv_tableIn (tgt := 776) hx0 hb d32 (by decide) (by decide) rfl (by decide) (lc_restore F hl hi hL hx hy hm hr4 K H locs hP hP2 hS)
      · exact lv_tableIn (tgt := 789) hx0 hb d32 (by decide) (by decide) rfl (by decide) (lc_count F hl hi hL hx hy hm hr4 K H locs hP hP2 hS)
      · exact lv_tableIn (tgt := 812) hx0 hb d32 (by decide) (by decide) rfl (by decide) (lc_digest F hl hi hL hx hy hm hr4 K H locs hP hP2 hS)
      · exact lv_tableOut (tgt := 826) hx0 hb d32 (Or.inr (by rw [nI_toInt (by omega)]; omega)) (by decide) (K S T mm hx hy hm (Nat.le_succ _) H locs hP hP2 hS)
end
