/-! type -/
theorem clT_ge {B : Bk} : ∀ (t : List Nat) (o : Nat), clT B t o = true → ∀ c ∈ t, 48 ≤ c
  | [], o, h => fun c hc => absurd hc (by simp)
  | c :: t, 0, h => by rw [clT] at h; exact absurd h (by decide)
  | c :: t, o + 1, h => by
    rw [clT] at h
    by_cases q : 48 ≤ c ∧ c < 48 + bN B
    · rw [if_pos q] at h
      intro y hy
      rcases List.mem_cons.mp hy with e | e
      · rw [e]; exact q.1
      · exact clT_ge t _ h y e
    · rw [if_neg q] at h
      exact absurd h (by decide)
def v_type (m : Mt) (x : Int32) : Int32 := if 0 ≤ x ∧ x < 8 then (if clT (mB m) (mP m) 1 = true then (if (mP m).length ≤ 15 then nI (mP m).length else -104) else -103) else -101
def m_type (m : Mt) (x : Int32) : Mt := if 0 ≤ x ∧ x < 8 then (if clT (mB m) (mP m) 1 = true then (if (mP m).length ≤ 15 then m_page (m_slot m x.toNatClampNeg (pgT (mP m))) [] else m) else m) else m
section
variable {l : Launch} {D : va_G} {ad : Nat → Nat} {cA : ClassId} {x y z w : Int32} {S S' S0 : zS} {m : Mt} {n p k : Nat}
theorem lp_type (h : InvX S0 m) (hm : MOk m) (h15 : (mP m).length ≤ 15) (hg : ∀ c ∈ mP m, 48 ≤ c) (Post : Value → zS → Prop) (K : ∀ S', Ag [38, 39] S0 S' → RowR S' 38 (pgT (mP m)) → Go (l, wX, D, ad, cA) 2 m_SB_type Post 88 [some (.ref 0), some (.int x), some (.int (nI (mP m).length))] [] S') : ∀ (k i : Nat) (S : zS), i + k = (mP m).length → Ag [38, 39] S0 S → RowR S 38 (pgT ((mP m).take i)) → Go (l, wX, D, ad, cA) 2 m_SB_type Post 52 [some (.ref 0), some (.int x), some (.int (nI i))] [] S
  | 0, i, S, e, hA, hR => by
    have e6 : i = (mP m).length := by omega
    subst e6
    rw [List.take_of_length_le (Nat.le_refl _)] at hR
    refine (g_ld rfl rfl rfl (g_ld rfl rfl rfl (g_gr rfl rfl rfl rfl rfl (g_gi rfl rfl rfl rfl rfl (g_if rfl rfl (fun zc60 => ?_) (fun zc60 => ?_))))))
    · exact K S hA hR
    · rw [hA.1 1 (by decide), h.1] at zc60
      exact absurd (Int32.le_refl _) zc60
  | k + 1, i, S, e, hA, hR => by
    have hi : i < (mP m).length := by omega
    have hlen : (pgT ((mP m).take i)).length = i := by unfold pgT; simp; omega
    have hRi : S.1 38 1 = nI i := by rw [hR.1, hlen]
    have h48 : 48 ≤ (mP m).getD i 0 := by
      rw [List.getD_eq_getElem?_getD, List.getElem?_eq_getElem hi]
      exact hg _ (List.getElem_mem hi)
    have hlet : f_let S (nI i) - 48 = nI ((mP m).getD i 0 - 48) := by
      have e2 : f_let S (nI i) = f_let S0 (nI i) := by unfold f_let; rw [hA.1 _ (by decide)]
      rw [e2, let_at h hm hi, show (48 : Int32) = nI 48 from rfl, pk_sub (by omega)]
    refine (g_ld rfl rfl rfl (g_ld rfl rfl rfl (g_gr rfl rfl rfl rfl rfl (g_gi rfl rfl rfl rfl rfl (g_if rfl rfl (fun zc60 => ?_) (fun zc60 => (g_ld rfl rfl rfl (g_gr rfl rfl rfl rfl rfl (g_ld rfl rfl rfl (g_gr rfl rfl rfl rfl rfl (g_ld rfl rfl rfl (g_cv rfl (s_letterAt) (by omega) rfl rfl rfl rfl rfl rfl rfl rfl rfl (z_k1 (g_c rfl rfl (g_bin rfl rfl (g_cv rfl (s_radd (Or.inl rfl) (n := i) (by omega) hRi) (by omega) rfl rfl rfl rfl rfl rfl rfl rfl rfl (fun zv78 zS78 zh78 => ?_)))))))))))))))))
    · rw [hA.1 1 (by decide), h.1] at zc60
      have := le_n zc60
      omega
    · rcases zh78 with ⟨hn, -, -⟩ | ⟨hn, rfl, rfl⟩
      · omega
      · refine (g_pop rfl rfl (g_inc rfl rfl rfl rfl (g_go rfl ?_)))
        rw [hlet]
        have hp := RowR.push (s := (mP m).getD i 0 - 48) hR (by rw [hlen]; exact hn)
        rw [hlen] at hp
        have e3 : pgT ((mP m).take i) ++ [(mP m).getD i 0 - 48] = pgT ((mP m).take (i + 1)) := by
          rw [take_s hi]
          unfold pgT
          rw [List.map_append]
          rfl
        rw [e3] at hp
        have := lp_type h hm h15 hg Post K k (i + 1) _ (by omega) ((hA.ui (by decide)).ui (by decide)) hp
        rw [nI_succ i] at this ⊢
        exact this
theorem x_type (h : InvX S m) (hm : MOk m) : Sp (l, wX, D, ad, cA) 2 m_SB_type [.ref 0, .int x] S (fun v S' => v = .int (v_type m x) ∧ InvX S' (m_type m x)) := by
  have h90 := hm.1
  unfold v_type m_type
  refine Sp.of dk_SB_type ok_SB_type rfl (g_ld rfl rfl rfl (g_cs rfl (s_isSlot) (by omega) rfl rfl rfl rfl rfl rfl (z_k1 (g_if rfl rfl (fun zc4 => (g_ld rfl rfl rfl (g_gr rfl rfl rfl rfl rfl (g_ld rfl rfl rfl (g_gr rfl rfl rfl rfl rfl (g_cv rfl (s_closed h hm) (by omega) rfl rfl rfl rfl rfl rfl rfl rfl rfl (z_k1 (g_if rfl rfl (fun zc21 => (g_ld rfl rfl rfl (g_gr rfl rfl rfl rfl rfl (g_gi rfl rfl rfl rfl rfl (g_c rfl rfl (g_if rfl rfl (fun zc36 => ?_) (fun zc36 => (g_c rfl rfl (g_ri rfl rfl rfl ?_))))))))) (fun zc21 => (g_c rfl rfl (g_ri rfl rfl rfl ?_))))))))))) (fun zc4 => (g_c rfl rfl (g_ri rfl rfl rfl ?_)))))))
  · have a := b2_n.mp zc4
    have b := b2_n.mp zc21
    have c : (mP m).length ≤ 15 := by
      rw [h.1] at zc36
      exact le_n (b := 15) zc36
    rw [if_pos a, if_pos a, if_pos b, if_pos b, if_pos c, if_pos c]
    obtain ⟨s, hs, ex, e2⟩ := in_cl (n := 8) a.1 a.2
    rw [e2]
    refine (g_ld rfl rfl rfl (g_gr rfl rfl rfl rfl rfl (g_c rfl rfl (g_pi rfl rfl rfl rfl rfl rfl rfl (g_c rfl rfl (g_st rfl rfl rfl rfl rfl ?_))))))
    refine lp_type (S0 := S) h hm c (clT_ge _ _ b) _ ?_ (mP m).length 0 _ (by omega) (Ag.rf.ui (by decide)) RowR.nil
    intro S1 hA1 hR1
    refine (g_ld rfl rfl rfl (g_gr rfl rfl rfl rfl rfl (g_cv rfl (s_pclear) (by omega) rfl rfl rfl rfl rfl rfl rfl rfl rfl (fun zv92 zS92 zh92 => ?_))))
    obtain ⟨rfl, rfl⟩ := zh92
    have hA2 : Ag [1, 38, 39] S (z_ui S1 1 1 0) := (hA1.mono (by simp +contextual)).ui (by decide)
    have hSl : SlX (z_ui S1 1 1 0) (mS m) := (h.sl hm).ag (hA2.1 _ (by decide)) (hA2.1 _ (by decide))
    have hR2 : RowR (z_ui S1 1 1 0) 38 (pgT (mP m)) := hR1.ag (ui_ne (by decide)) (ui_ne (by decide))
    refine (g_pop rfl rfl (g_ld rfl rfl rfl (g_gr rfl rfl rfl rfl rfl (g_ld rfl rfl rfl (g_ld rfl rfl rfl (g_gr rfl rfl rfl rfl rfl (g_cv rfl (s_put hSl hs hR2 ex) (by omega) rfl rfl rfl rfl rfl rfl rfl rfl rfl (fun zv105 zS105 zh105 => ?_))))))))
    obtain ⟨rfl, hA3, hS3⟩ := zh105
    refine (g_ri rfl rfl rfl ?_)
    refine ⟨by unfold pgT; rw [List.length_map], ?_⟩
    have hp : InvX (z_ui S 1 1 0) (m_page m []) := h.page (Al.rf.ui (by decide)) (by rw [ui_at, pk_us]; rfl) At.nil
    refine hp.slot (t := pgT (mP m)) (s := s) ⟨fun k hk => ?_, ?_⟩ hS3
    · have hk2 : k ∉ [20, 21] := fun q => hk (by simp at q ⊢; omega)
      rw [hA3.1 k hk2]
      by_cases e : k = 1
      · rw [e, ui_at, ui_at, hA1.1 1 (by decide)]
      · rw [ui_ne e, ui_ne e]
        exact hA1.1 k (fun q => hk (by simp at q ⊢; omega))
    · rw [hA3.2]
      exact hA1.2
  · have a := b2_n.mp zc4
    have b := b2_n.mp zc21
    have c : ¬ (mP m).length ≤ 15 := fun q => zc36 (by rw [h.1]; exact nI_le (b := 15) q (by omega))
    rw [if_pos a, if_pos a, if_pos b, if_pos b, if_neg c, if_neg c]
    exact ⟨rfl, h⟩
  · have a := b2_n.mp zc4
    have b := b2_0.mp (Decidable.not_not.mp zc21)
    rw [if_pos a, if_pos a, if_neg b, if_neg b]
    exact ⟨rfl, h⟩
  · have a := b2_0.mp (Decidable.not_not.mp zc4)
    rw [if_neg a, if_neg a]
    exact ⟨rfl, h⟩
end
