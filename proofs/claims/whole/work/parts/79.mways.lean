/-! the reference: layWays, change, restore -/
def lwPost (S0 : zS) (B : Bk) (kd : Nat → Nat) : Value → zS → Prop := fun v S' => v = .null ∧ Am [14, 15, 16] [22, 24, 25] S0 S' ∧ (∀ j, j < 8 → S'.1 14 j = nI (wy B kd j)) ∧ S'.1 0 22 = nI (rnd B kd)
section
variable {l : Launch} {D : va_G} {ad : Nat → Nat} {cA : ClassId} {x y z w : Int32} {S S' S0 : zS} {m : Mt} {B : Bk} {V F kd : Nat → Nat} {n p k r q t : Nat}
theorem lp_lw0 {Post : Value → zS → Prop} (K : ∀ S', Am [14, 15, 16] [22, 24, 25] S0 S' → (∀ j, j < 8 → S'.1 14 j = 0 ∧ S'.1 15 j = 0) → Go (l, wM, D, ad, cA) 4 m_M_layWays Post 28 [some (.ref 0), some (.int 8), none] [] S') : ∀ (k i : Nat) (S : zS), i + k = 8 → Am [14, 15, 16] [22, 24, 25] S0 S → (∀ j, j < i → S.1 14 j = 0 ∧ S.1 15 j = 0) → Go (l, wM, D, ad, cA) 4 m_M_layWays Post 2 [some (.ref 0), some (.int (nI i)), none] [] S
  | 0, i, S, e, hA, hz => by
    have e8 : i = 8 := by omega
    subst e8
    refine (g_ld rfl rfl rfl (g_c rfl rfl (g_if rfl rfl (fun zc5 => ?_) (fun zc5 => ?_))))
    · exact K S hA hz
    · exact absurd (by decide) zc5
  | k + 1, i, S, e, hA, hz => by
    refine (g_ld rfl rfl rfl (g_c rfl rfl (g_if rfl rfl (fun zc5 => ?_) (fun zc5 => (g_ld rfl rfl rfl (g_gr rfl rfl rfl rfl rfl (g_ld rfl rfl rfl (g_c rfl rfl (g_ast rfl rfl rfl ?_ (g_ld rfl rfl rfl (g_gr rfl rfl rfl rfl rfl (g_ld rfl rfl rfl (g_c rfl rfl (g_ast rfl rfl rfl ?_ (g_inc rfl rfl rfl rfl (g_go rfl ?_))))))))))))))))
    · have := le_n (a := 8) zc5
      omega
    · exact vp_in_nI (show i < 8 by omega) (by decide)
    · exact vp_in_nI (show i < 8 by omega) (by decide)
    · rw [nI_clamp (by omega)]
      have := lp_lw0 K k (i + 1) (z_ui (z_ui S 14 i 0) 15 i 0) (by omega) ((hA.ui (by decide) (by decide)).ui (by decide) (by decide)) (fun j hj => by
        rw [ui_ne (show (14 : Nat) ≠ 15 by decide), ui_at, ui_at, ui_ne (show (15 : Nat) ≠ 14 by decide)]
        by_cases g : j = i
        · rw [g, pk_us, pk_us]; exact ⟨rfl, rfl⟩
        · rw [pk_un g, pk_un g]; exact hz j (by omega))
      rw [nI_succ] at this
      exact this
theorem lp_cmp (h14 : ∀ j, j < 8 → S.1 14 j = nI (V j)) (h15 : ∀ j, j < 8 → S.1 15 j = nI (F j)) (hV : ∀ j, V j < 4) (hF : ∀ j, F j < 4) {Post : Value → zS → Prop} (K : Go (l, wM, D, ad, cA) 4 m_M_layWays Post 84 [some (.ref 0), some (.int (b2 (chb F V 8 = true))), some (.int 8)] [] S) : ∀ (k i : Nat), i + k = 8 → Go (l, wM, D, ad, cA) 4 m_M_layWays Post 47 [some (.ref 0), some (.int (b2 (chb F V i = true))), some (.int (nI i))] [] S
  | 0, i, e => by
    have e8 : i = 8 := by omega
    subst e8
    refine (g_ld rfl rfl rfl (g_c rfl rfl (g_if rfl rfl (fun zc50 => ?_) (fun zc50 => ?_))))
    · exact K
    · exact absurd (by decide) zc50
  | k + 1, i, e => by
    have ih := lp_cmp h14 h15 hV hF K k (i + 1) (by omega)
    have hv := hV i
    have hf := hF i
    rw [chb_s, nI_succ] at ih
    refine (g_ld rfl rfl rfl (g_c rfl rfl (g_if rfl rfl (fun zc50 => ?_) (fun zc50 => (g_ld rfl rfl rfl (g_if rfl rfl (fun zc54 => (g_c rfl rfl (g_go rfl (g_st rfl rfl rfl rfl rfl (g_inc rfl rfl rfl rfl (g_go rfl ?_)))))) (fun zc54 => (g_ld rfl rfl rfl (g_gr rfl rfl rfl rfl rfl (g_ld rfl rfl rfl (g_ald rfl rfl rfl ?_ (g_ld rfl rfl rfl (g_gr rfl rfl rfl rfl rfl (g_ld rfl rfl rfl (g_ald rfl rfl rfl ?_ (g_if rfl rfl (fun zc69 => (g_c rfl rfl (g_st rfl rfl rfl rfl rfl (g_inc rfl rfl rfl rfl (g_go rfl ?_))))) (fun zc69 => (g_c rfl rfl (g_go rfl (g_st rfl rfl rfl rfl rfl (g_inc rfl rfl rfl rfl (g_go rfl ?_))))))))))))))))))))))
    · have := le_n (a := 8) zc50
      omega
    · have g := b2_n.mp zc54
      rw [b2_t (by rw [g]; rfl)] at ih
      exact ih
    · exact vp_in_nI (show i < 8 by omega) (by decide)
    · exact vp_in_nI (show i < 8 by omega) (by decide)
    · have g := b2_0.mp (Decidable.not_not.mp zc54)
      rw [nI_clamp (by omega), h14 i (by omega), h15 i (by omega)] at zc69
      have e1 : V i = F i := eq_n zc69
      rw [b2_f (by rw [Bool.not_eq_true] at g; rw [g, e1]; simp)] at ih
      exact ih
    · have g := b2_0.mp (Decidable.not_not.mp zc54)
      rw [nI_clamp (by omega), h14 i (by omega), h15 i (by omega)] at zc69
      have e1 : F i ≠ V i := fun q => zc69 (by rw [q])
      rw [b2_t (by simp [e1])] at ih
      exact ih
theorem lp_lw (hB : BkM S0 B) (hW : WfB B) (hK : KdM S0 11 B kd) (hk5 : ∀ p, kd p < 5) : ∀ (k i : Nat) (S : zS) (w2 : Option Value), 17 - i = k → (∀ k, k < i → itW (Fw B kd) (k + 1) ≠ itW (Fw B kd) k) → Am [14, 15, 16] [22, 24, 25] S0 S → (∀ j, j < 8 → S.1 14 j = nI (itW (Fw B kd) i j)) → (∀ j, j < 8 → S.1 15 j = nI (itW (Fw B kd) i j)) → S.1 0 22 = nI i → Go (l, wM, D, ad, cA) 4 m_M_layWays (lwPost S0 B kd) 35 [some (.ref 0), some (.int 1), w2] [] S := by
  intro k
  induction k using Nat.strongRecOn with
  | ind k ih =>
    intro i S w2 hk hne hA hV14 hV15' hR
    have hi := rnd_ge hne
    have h16 := (rnd_sp B kd).1.1
    have hB2 : BkM S B := hB.ag (hA.2.1 _ (by decide)) (hA.1 _ (by decide) (by decide)) (hA.1 _ (by decide) (by decide)) (hA.1 _ (by decide) (by decide)) (hA.1 _ (by decide) (by decide)) (hA.1 _ (by decide) (by decide))
    have hK2 : KdM S 11 B kd := by unfold KdM; rw [hA.1 11 (by decide) (by decide)]; exact hK
    have hVl : ∀ j, itW (Fw B kd) i j < 4 := itW_lt i
    have hout : ∀ j, j < 8 → bN B ≤ j / 2 → itW (Fw B kd) i j = 0 := by
      intro j hj hb
      cases i with
      | zero => rfl
      | succ i => exact Fw_out hW hb
    have hV15 : ∀ j, j < 8 → bN B ≤ j / 2 → S.1 15 j = 0 := fun j hj hb => by rw [hV15' j hj, hout j hj hb]; rfl
    refine (g_ld rfl rfl rfl (g_if rfl rfl (fun zc36 => (g_rv rfl rfl ?_)) (fun zc36 => (g_ld rfl rfl rfl (g_cv rfl (s_layRound hB2 hW hK2 hk5 hVl hV14 hV15) (by omega) rfl rfl rfl rfl rfl rfl rfl rfl rfl (fun zv40 zS40 zh40 => ?_))))))
    · exact absurd zc36 (by decide)
    · obtain ⟨rfl, hA3, hF⟩ := zh40
      refine (g_c rfl rfl (g_st rfl rfl rfl rfl rfl (g_c rfl rfl (g_st rfl rfl rfl rfl rfl ?_))))
      have hV2 : ∀ j, j < 8 → zS40.1 14 j = nI (itW (Fw B kd) i j) := by rw [hA3.1 14 (by decide) (by decide)]; exact hV14
      refine lp_cmp hV2 hF hVl (Fw_lt hVl) ?_ 8 0 (by omega)
      refine (g_ld rfl rfl rfl (g_gr rfl rfl rfl rfl rfl (g_ld rfl rfl rfl (g_gr rfl rfl rfl rfl rfl (g_cs rfl (s_copyM (N := 8) rfl rfl rfl rfl (by decide) (by decide)) (by omega) rfl rfl rfl rfl rfl rfl (fun zv92 zS92 zh92 => ?_))))))
      obtain ⟨rfl, rfl⟩ := zh92
      have eR : (z_uf zS40 14 (cpyF (zS40.1 15) (zS40.1 14) 8)).1 0 22 = nI i := by rw [uf_ne (by decide), hA3.2.1 22 (by decide)]; exact hR
      have hA4 : Am [14, 15, 16] [22, 24, 25] S0 (z_uf zS40 14 (cpyF (zS40.1 15) (zS40.1 14) 8)) := (hA.tr (hA3.mono (by simp) (by simp +contextual))).uf (by decide) (by decide)
      have n14 : ∀ j, j < 8 → (z_uf zS40 14 (cpyF (zS40.1 15) (zS40.1 14) 8)).1 14 j = nI (itW (Fw B kd) (i + 1) j) := fun j hj => by rw [uf_at, cpyF_at hj]; exact hF j hj
      have n15 : ∀ j, j < 8 → (z_uf zS40 14 (cpyF (zS40.1 15) (zS40.1 14) 8)).1 15 j = nI (itW (Fw B kd) (i + 1) j) := fun j hj => by rw [uf_ne (by decide)]; exact hF j hj
      by_cases hc : chb (Fw B kd (itW (Fw B kd) i)) (itW (Fw B kd) i) 8 = true
      · rw [b2_t hc]
        refine (g_ld rfl rfl rfl (g_dup rfl rfl (g_gi rfl rfl rfl rfl rfl (g_ld rfl rfl rfl (g_if rfl rfl (fun zc101 => (g_c rfl rfl (g_bin rfl rfl (g_pi rfl rfl rfl rfl rfl rfl rfl (g_go rfl ?_))))) (fun zc101 => (g_c rfl rfl (g_go rfl (g_bin rfl rfl (g_pi rfl rfl rfl rfl rfl rfl rfl (g_go rfl ?_)))))))))))
        · exact absurd zc101 (by decide)
        · rw [eR, ← nI_succ]
          refine ih _ (by omega) (i + 1) _ _ rfl (fun k hk => ?_) (hA4.fd (by decide)) (by rw [ui_ne (by decide)]; exact n14) (by rw [ui_ne (by decide)]; exact n15) (by rw [ui_at, pk_us])
          rcases Nat.lt_or_ge k i with g | g
          · exact hne k g
          · rw [show k = i by omega]; exact chb_iff.mp hc
      · rw [b2_f hc]
        have he : itW (Fw B kd) (i + 1) = itW (Fw B kd) i := Classical.byContradiction (fun q => hc (chb_iff.mpr q))
        have hrn := rnd_is hne he
        refine (g_ld rfl rfl rfl (g_dup rfl rfl (g_gi rfl rfl rfl rfl rfl (g_ld rfl rfl rfl (g_if rfl rfl (fun zc101 => (g_c rfl rfl (g_bin rfl rfl (g_pi rfl rfl rfl rfl rfl rfl rfl (g_go rfl ?_))))) (fun zc101 => (g_c rfl rfl (g_go rfl (g_bin rfl rfl (g_pi rfl rfl rfl rfl rfl rfl rfl (g_go rfl ?_)))))))))))
        · refine (g_ld rfl rfl rfl (g_if rfl rfl (fun zc36 => (g_rv rfl rfl ?_)) (fun zc36 => ?_)))
          · refine ⟨rfl, hA4.fd (by decide), ?_, ?_⟩
            · rw [ui_ne (by decide)]
              unfold wy
              rw [hrn, ← he]
              exact n14
            · rw [ui_at, pk_us, eR, hrn]
              exact nI_add i 0
          · exact absurd rfl zc36
        · exact absurd rfl zc101
theorem s_layWays (hB : BkM S B) (hW : WfB B) (hK : KdM S 11 B kd) (hk5 : ∀ p, kd p < 5) : Sp (l, wM, D, ad, cA) 4 m_M_layWays [.ref 0] S (lwPost S B kd) := by
  refine Sp.of dk_M_layWays ok_M_layWays rfl (g_c rfl rfl (g_st rfl rfl rfl rfl rfl ?_))
  refine lp_lw0 (S0 := S) (fun S1 hA hz => ?_) 8 0 S (by omega) Am.rf (fun j hj => absurd hj (by omega))
  refine (g_ld rfl rfl rfl (g_c rfl rfl (g_pi rfl rfl rfl rfl rfl rfl rfl (g_c rfl rfl (g_st rfl rfl rfl rfl rfl ?_)))))
  refine lp_lw hB hW hK hk5 _ 0 _ none rfl (fun k hk => absurd hk (by omega)) (hA.fd (by decide)) (fun j hj => ?_) (fun j hj => ?_) (by rw [ui_at, pk_us]; rfl)
  · rw [ui_ne (by decide)]; exact (hz j hj).1
  · rw [ui_ne (by decide)]; exact (hz j hj).2
end
