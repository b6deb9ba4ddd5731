/-! the program's fits, argumentFits, isAlike -/
def HT (S : zS) (a : Nat) (t : List Nat) : Prop := At (S.1 41) a t ∧ a + t.length ≤ 34
def FX (S : zS) (B : Bk) (V : Nat → Nat) : Prop := BkX S 3 B ∧ WfB B ∧ WyR S 30 V ∧ ∀ k, k < 4 → S.1 41 k = nI k
def ap (S : zS) (a p : Nat) : Nat := if p = 0 then a + 1 else f_bh S 41 (34 - (a + 1)) (a + 1) 1
section
variable {l : Launch} {D : va_G} {ad : Nat → Nat} {cA : ClassId} {d r q n : Nat} {x z : Int32} {S S0 : zS} {B : Bk} {V kd : Nat → Nat}
theorem s_behindE {N : Nat} (hq : (q = 21 ∧ N = 120) ∨ (q = 41 ∧ N = 34)) (hn : n ≤ N) (hx : x = nI n) : Sp (l, wX, D, ad, cA) 0 m_Book_behind [.ref 3, .ref q, .int x] S (fun v S' => v = .int (nI (f_bh S q (N - n) n 1)) ∧ S' = S) := by
  subst hx
  exact s_behind hq hn
theorem s_argumentE {a p : Nat} (ha : a ≤ 33) (hp : p < 2) {xa xp : Int32} (hxa : xa = nI a) (hxp : xp = nI p) : Sp (l, wX, D, ad, cA) 1 m_Fit_argument [.ref 40, .int xa, .int xp] S (fun v S' => v = .int (nI (ap S a p)) ∧ S' = S) := by
  subst hxa
  subst hxp
  refine Sp.of dk_Fit_argument ok_Fit_argument rfl (g_ld rfl rfl rfl (g_if rfl rfl (fun zc1 => (g_ld rfl rfl rfl (g_gr rfl rfl rfl rfl rfl (g_ld rfl rfl rfl (g_gr rfl rfl rfl rfl rfl (g_ld rfl rfl rfl (g_c rfl rfl (g_bin rfl rfl (g_cv rfl (s_behindE (N := 34) (n := a + 1) (Or.inr ⟨rfl, rfl⟩) (by omega) (nI_succ a).symm) (by omega) rfl rfl rfl rfl rfl rfl rfl rfl rfl (z_k1 (g_ri rfl rfl rfl ?_))))))))))) (fun zc1 => (g_ld rfl rfl rfl (g_c rfl rfl (g_bin rfl rfl (g_go rfl (g_ri rfl rfl rfl ?_))))))))
  · have h0 : p ≠ 0 := fun e => zc1 (by rw [e]; rfl)
    unfold ap
    rw [if_neg h0]
    exact ⟨rfl, rfl⟩
  · have h0 : p = 0 := eq_n (b := 0) (Decidable.not_not.mp zc1)
    unfold ap
    rw [if_pos h0, nI_succ]
    exact ⟨rfl, rfl⟩
theorem ht_hd {t : List Nat} {a : Nat} (h : HT S a t) (hc : CT B t) : f_fit S (nI a) = nI (ahd t) ∧ a ≤ 33 ∧ ahd t < bN B := by
  obtain ⟨c, r, rfl, e, hn⟩ := hc.ne
  have h2 := h.2
  simp only [List.length_cons] at h2
  refine ⟨?_, by omega, by rw [e]; exact hn⟩
  unfold f_fit
  rw [if_pos (in34 (k := a) (by omega)), nI_clamp (by omega), e]
  exact (At.cons_iff.mp h.1).1
theorem ht_arg (hX : FX S B V) {t : List Nat} {a p : Nat} (h : HT S a t) (hc : CT B t) (hp : p < bP B (ahd t)) : HT S (ap S a p) (arg (bP B) t p) ∧ CT B (arg (bP B) t p) ∧ p < 2 := by
  obtain ⟨hB, hW, -, -⟩ := hX
  have hP2 := hW.2.1 (ahd t)
  obtain ⟨g1, g2, g3⟩ := arg_pos hW hc hp
  obtain ⟨k1, k2⟩ := g3 _ _ h.1
  have e : ap S a p = a + 1 + (if p = 0 then 0 else skipL (bP B) 1 t.tail) := by
    unfold ap
    by_cases h0 : p = 0
    · rw [if_pos h0, if_pos h0]
    · rw [if_neg h0, if_neg h0]
      obtain ⟨c, r, rfl, e, hn⟩ := hc.ne
      have h2 := h.2
      simp only [List.length_cons] at h2
      rw [e] at hp
      have hf : finb (bP B) (1 + (bP B c - 1)) r = true := by
        have := hc.2.1
        rw [finb, Nat.zero_add] at this
        rw [show 1 + (bP B c - 1) = bP B c by omega]
        exact this
      exact bh_eq (P := bP B) (fun s hs => bk_par hB hW (by omega)) hW.2.1 r (a + 1) 1 (fun s hs => by have := hc.1 s (List.mem_cons_of_mem _ hs); have := hW.1; omega) (finb_add r 1 _ hf).1 (by omega) (by omega) (by omega) (At.cons_iff.mp h.1).2
  refine ⟨⟨by rw [e]; exact k1, ?_⟩, g1, by omega⟩
  have h2 := h.2
  rw [e]
  omega
theorem s_alike (hX : FX S B V) : ∀ f, f ≤ 16 → ∀ (a b : Nat) (t u : List Nat) (xa xb xd : Int32), xa = nI a → xb = nI b → xd = nI (16 - f) → HT S a t → HT S b u → CT B t → CT B u → Sp (l, wX, D, ad, cA) (4 + f) m_Fit_isAlike [.ref 40, .int xa, .int xb, .int xd] S (fun v S' => v = .int (b2 (alF (bP B) V f t u = true)) ∧ S' = S) := by
  intro f
  induction f with
  | zero =>
    intro hf a b t u xa xb xd hxa hxb hxd hta hub ht hu
    subst hxd
    refine Sp.of dk_Fit_isAlike ok_Fit_isAlike rfl (g_ld rfl rfl rfl (g_ld rfl rfl rfl (g_cv rfl (s_fsignAt) (by omega) rfl rfl rfl rfl rfl rfl rfl rfl rfl (z_k1 (g_st rfl rfl rfl rfl rfl (g_ld rfl rfl rfl (g_c rfl rfl (g_if rfl rfl (fun zc10 => (g_c rfl rfl (g_ri rfl rfl rfl ?_))) (fun zc10 => ?_)))))))))
    · exact ⟨rfl, rfl⟩
    · exact absurd (by decide) zc10
  | succ f ih =>
    intro hf a b t u xa xb xd hxa hxb hxd hta hub ht hu
    subst hxa
    subst hxb
    subst hxd
    obtain ⟨ea, ha33, han⟩ := ht_hd hta ht
    obtain ⟨eb, hb33, hbn⟩ := ht_hd hub hu
    have h4 := hX.2.1.1
    have hdd : nI (16 - (f + 1)) + 1 = nI (16 - f) := by rw [← nI_succ]; congr 1; omega
    refine Sp.of dk_Fit_isAlike ok_Fit_isAlike rfl (g_ld rfl rfl rfl (g_ld rfl rfl rfl (g_cv rfl (s_fsignAt) (by omega) rfl rfl rfl rfl rfl rfl rfl rfl rfl (z_k1 (g_st rfl rfl rfl rfl rfl (g_ld rfl rfl rfl (g_c rfl rfl (g_if rfl rfl (fun zc10 => (g_c rfl rfl (g_ri rfl rfl rfl ?_))) (fun zc10 => (g_ld rfl rfl rfl (g_ld rfl rfl rfl (g_ld rfl rfl rfl (g_cv rfl (s_fsignAt) (by omega) rfl rfl rfl rfl rfl rfl rfl rfl rfl (z_k1 (g_if rfl rfl (fun zc20 => (g_c rfl rfl (g_st rfl rfl rfl rfl rfl ?_))) (fun zc20 => (g_c rfl rfl (g_ri rfl rfl rfl ?_))))))))))))))))))
    · have := lt_n (a := 15) zc10; omega
    · rw [ea, eb] at zc20
      have he := eq_n zc20
      rw [ea]
      have hP2 := hX.2.1.2.1 (ahd t)
      have key : ∀ (k p : Nat), bP B (ahd t) - p = k → p ≤ bP B (ahd t) → (∀ p', p' < p → (if V (2 * ahd t + p') = 0 then true else alF (bP B) V f (arg (bP B) t p') (arg (bP B) u p')) = true) → Go (l, wX, D, ad, cA) (4 + (f + 1)) m_Fit_isAlike (fun v S' => v = .int (b2 (alF (bP B) V (f + 1) t u = true)) ∧ S' = S) 28 [some (.ref 40), some (.int (nI a)), some (.int (nI b)), some (.int (nI (16 - (f + 1)))), some (.int (nI (ahd t))), some (.int (nI p))] [] S := by
        intro k
        induction k using Nat.strongRecOn with
        | ind k ih2 =>
          intro p hk hp hall
          have ep : f_par S 3 (nI (ahd t)) = nI (bP B (ahd t)) := bk_par hX.1 hX.2.1 (by omega)
          refine (g_ld rfl rfl rfl (g_ld rfl rfl rfl (g_gr rfl rfl rfl rfl rfl (g_ld rfl rfl rfl (g_cv rfl (s_parametersOf (by decide)) (by omega) rfl rfl rfl rfl rfl rfl rfl rfl rfl (z_k1 (g_if rfl rfl (fun zc39 => (g_c rfl rfl (g_ri rfl rfl rfl ?_))) (fun zc39 => ?_))))))))
          · rw [ep] at zc39
            have := le_n zc39
            refine v_int (b2_t ?_).symm rfl
            rw [alF, Bool.and_eq_true, decide_eq_true_eq, List.all_eq_true]
            exact ⟨he, fun p' hp' => hall p' (by have := List.mem_range.mp hp'; omega)⟩
          · rw [ep] at zc39
            have hlt := nle_n zc39
            have ev : f_way S 30 (nI (ahd t)) (nI p) = nI (V (2 * ahd t + p)) := wy_at hX.2.2.1 (by omega) (by omega)
            have hV4 := hX.2.2.1.1 (2 * ahd t + p)
            have hta := ht_arg hX hta ht hlt
            have hub := ht_arg hX hub hu (p := p) (by rw [← he]; exact hlt)
            refine (g_ld rfl rfl rfl (g_gr rfl rfl rfl rfl rfl (g_ld rfl rfl rfl (g_ld rfl rfl rfl (g_cv rfl (s_wayOf (by decide)) (by omega) rfl rfl rfl rfl rfl rfl rfl rfl rfl (z_k1 (g_if rfl rfl (fun zc53 => (g_inc rfl rfl rfl rfl (g_go rfl ?_))) (fun zc53 => (g_ld rfl rfl rfl (g_ld rfl rfl rfl (g_ld rfl rfl rfl (g_ld rfl rfl rfl (g_cv rfl (s_argumentE (a := a) (p := p) (by omega) (by omega) rfl rfl) (by omega) rfl rfl rfl rfl rfl rfl rfl rfl rfl (z_k1 (g_ld rfl rfl rfl (g_ld rfl rfl rfl (g_ld rfl rfl rfl (g_cv rfl (s_argumentE (a := b) (p := p) (by omega) (by omega) rfl rfl) (by omega) rfl rfl rfl rfl rfl rfl rfl rfl rfl (z_k1 (g_ld rfl rfl rfl (g_c rfl rfl (g_bin rfl rfl (g_cv rfl (ih (by omega) (ap S a p) (ap S b p) (arg (bP B) t p) (arg (bP B) u p) _ _ _ rfl rfl hdd hta.1 hub.1 hta.2.1 hub.2.1) (by omega) rfl rfl rfl rfl rfl rfl rfl rfl rfl (z_k1 (g_if rfl rfl (fun zc77 => (g_inc rfl rfl rfl rfl (g_go rfl ?_))) (fun zc77 => (g_c rfl rfl (g_ri rfl rfl rfl ?_))))))))))))))))))))))))))))
            · rw [ev] at zc53
              have hv0 := eq_n (b := 0) zc53
              have := ih2 _ (by omega) (p + 1) rfl hlt (fun p' hp' => by
                rcases Nat.lt_or_ge p' p with g | g
                · exact hall p' g
                · rw [show p' = p by omega, if_pos hv0])
              rw [nI_succ] at this
              exact this
            · rw [ev] at zc53
              have hv0 : ¬ V (2 * ahd t + p) = 0 := fun e => zc53 (by rw [e]; rfl)
              have hal := b2_n.mp zc77
              have := ih2 _ (by omega) (p + 1) rfl hlt (fun p' hp' => by
                rcases Nat.lt_or_ge p' p with g | g
                · exact hall p' g
                · rw [show p' = p by omega, if_neg hv0]; exact hal)
              rw [nI_succ] at this
              exact this
            · rw [ev] at zc53
              have hv0 : ¬ V (2 * ahd t + p) = 0 := fun e => zc53 (by rw [e]; rfl)
              have hal := b2_0.mp (Decidable.not_not.mp zc77)
              refine v_int (b2_f (fun q => hal ?_)).symm rfl
              rw [alF, Bool.and_eq_true, List.all_eq_true] at q
              have := q.2 p (List.mem_range.mpr hlt)
              rw [if_neg hv0] at this
              exact this
      exact key _ 0 rfl (Nat.zero_le _) (fun p' hp' => absurd hp' (by omega))
    · rw [ea, eb] at zc20
      refine v_int (b2_f (fun q => zc20 ?_)).symm rfl
      rw [alF, Bool.and_eq_true, decide_eq_true_eq] at q
      rw [q.1]
def fitsAt (l : Launch) (D : va_G) (ad : Nat → Nat) (cA : ClassId) (S : zS) (B : Bk) (V : Nat → Nat) (f : Nat) : Prop := ∀ (a b : Nat) (t u : List Nat) (xa xb xd : Int32), xa = nI a → xb = nI b → xd = nI (16 - f) → HT S a t → HT S b u → CT B t → CT B u → Sp (l, wX, D, ad, cA) (8 + 3 * f) m_Fit_fits [.ref 40, .int xa, .int xb, .int xd] S (fun v S' => v = .int (b2 (sF B V f t u = true)) ∧ S' = S)
theorem s_argF (hX : FX S B V) {f : Nat} (hf : f + 1 ≤ 16) (hfit : fitsAt l D ad cA S B V f) {b p : Nat} {u a' : List Nat} {xa xb xp xd : Int32} (hxb : xb = nI b) (hxp : xp = nI p) (hp : p < 2) (hxd : xd = nI (16 - (f + 1))) (hub : HT S b u) (hu : CT B u) (hv : p < bP B (ahd u) → ∃ F, xa = nI F ∧ HT S F a' ∧ CT B a') : Sp (l, wX, D, ad, cA) (9 + 3 * f) m_Fit_argumentFits [.ref 40, .int xa, .int xb, .int xp, .int xd] S (fun v S' => v = .int (b2 (wF V (sF B V f) (bP B) u p a' = true)) ∧ S' = S) := by
  subst hxb
  subst hxp
  subst hxd
  obtain ⟨eb, hb33, hbn⟩ := ht_hd hub hu
  have h4 := hX.2.1.1
  have hP2 := hX.2.1.2.1 (ahd u)
  have hdd : nI (16 - (f + 1)) + 1 = nI (16 - f) := by rw [← nI_succ]; congr 1; omega
  have ep : f_par S 3 (nI (ahd u)) = nI (bP B (ahd u)) := bk_par hX.1 hX.2.1 (by omega)
  refine Sp.of dk_Fit_argumentFits ok_Fit_argumentFits rfl (g_ld rfl rfl rfl (g_ld rfl rfl rfl (g_cv rfl (s_fsignAt) (by omega) rfl rfl rfl rfl rfl rfl rfl rfl rfl (z_k1 (g_st rfl rfl rfl rfl rfl (g_ld rfl rfl rfl (g_gr rfl rfl rfl rfl rfl (g_ld rfl rfl rfl (g_ld rfl rfl rfl (g_cv rfl (s_hasParameter (by decide)) (by omega) rfl rfl rfl rfl rfl rfl rfl rfl rfl (z_k1 (g_if rfl rfl (fun zc17 => (g_ld rfl rfl rfl (g_ld rfl rfl rfl (g_ld rfl rfl rfl (g_cv rfl (s_argumentE (a := b) (p := p) hb33 hp rfl rfl) (by omega) rfl rfl rfl rfl rfl rfl rfl rfl rfl (z_k1 (g_st rfl rfl rfl rfl rfl (g_ld rfl rfl rfl (g_gr rfl rfl rfl rfl rfl (g_ld rfl rfl rfl (g_ld rfl rfl rfl (g_cv rfl (s_wayOf (by decide)) (by omega) rfl rfl rfl rfl rfl rfl rfl rfl rfl (z_k1 ?_))))))))))))) (fun zc17 => (g_c rfl rfl (g_ri rfl rfl rfl ?_)))))))))))))))
  · rw [eb] at zc17 ⊢
    have hlt : p < bP B (ahd u) := by
      have := (b2_n.mp zc17).2
      rw [ep] at this
      exact lt_n this
    obtain ⟨F, rfl, hF⟩ := hv hlt
    have hub0 := hub
    have hub := ht_arg hX hub hu hlt
    have hV4 := hX.2.2.1.1 (2 * ahd u + p)
    rw [wy_at hX.2.2.1 (by omega) hp]
    have hal := alF_eq hX.2.1 hX.2.2.1.1 f a' (arg (bP B) u p) hF.2 hub.2.1
    have hw : wF V (sF B V f) (bP B) u p a' = ((if V (2 * ahd u + p) % 2 = 1 then sF B V f a' (arg (bP B) u p) else true) && (if V (2 * ahd u + p) / 2 % 2 = 1 then sF B V f (arg (bP B) u p) a' else true)) := by unfold wF; rw [if_pos hlt]
    rw [hw]
    generalize V (2 * ahd u + p) = w at hV4 ⊢
    rcases (show w = 0 ∨ w = 1 ∨ w = 2 ∨ w = 3 by omega) with rfl | rfl | rfl | rfl
    · refine g_tout rfl (Or.inl (by decide)) (tgt := 104) (by decide) ?_
      refine (g_c rfl rfl (g_ri rfl rfl rfl ?_))
      exact ⟨rfl, rfl⟩
    · refine g_tin rfl (by decide) (by decide) (off := 28) (by decide) (tgt := 68) (by decide) ?_
      refine (g_ld rfl rfl rfl (g_ld rfl rfl rfl (g_ld rfl rfl rfl (g_ld rfl rfl rfl (g_c rfl rfl (g_bin rfl rfl (g_cv rfl (hfit F (ap S b p) a' (arg (bP B) u p) _ _ _ rfl rfl hdd hF.1 hub.1 hF.2 hub.2.1) (by omega) rfl rfl rfl rfl rfl rfl rfl rfl rfl (z_k1 (g_ri rfl rfl ?_ ?_)))))))))
      · exact b2_nar
      · exact ⟨by simp, rfl⟩
    · refine g_tin rfl (by decide) (by decide) (off := 40) (by decide) (tgt := 80) (by decide) ?_
      refine (g_ld rfl rfl rfl (g_ld rfl rfl rfl (g_ld rfl rfl rfl (g_ld rfl rfl rfl (g_c rfl rfl (g_bin rfl rfl (g_cv rfl (hfit (ap S b p) F (arg (bP B) u p) a' _ _ _ rfl rfl hdd hub.1 hF.1 hub.2.1 hF.2) (by omega) rfl rfl rfl rfl rfl rfl rfl rfl rfl (z_k1 (g_ri rfl rfl ?_ ?_)))))))))
      · exact b2_nar
      · exact ⟨by simp, rfl⟩
    · refine g_tin rfl (by decide) (by decide) (off := 52) (by decide) (tgt := 92) (by decide) ?_
      refine (g_ld rfl rfl rfl (g_ld rfl rfl rfl (g_ld rfl rfl rfl (g_ld rfl rfl rfl (g_c rfl rfl (g_bin rfl rfl (g_cv rfl (s_alike hX f (by omega) F (ap S b p) a' (arg (bP B) u p) _ _ _ rfl rfl hdd hF.1 hub.1 hF.2 hub.2.1) (by omega) rfl rfl rfl rfl rfl rfl rfl rfl rfl (z_k1 (g_ri rfl rfl ?_ ?_)))))))))
      · exact b2_nar
      · refine v_int ?_ rfl
        by_cases hq : alF (bP B) V f a' (arg (bP B) u p) = true
        · rw [b2_t hq, b2_t]
          simp [hal.mp hq]
        · rw [b2_f hq, b2_f]
          intro z
          apply hq
          simp at z
          exact hal.mpr z
  · rw [eb, ep] at zc17
    have hn := b2_0.mp (Decidable.not_not.mp zc17)
    have hlt : ¬ p < bP B (ahd u) := fun q => hn ⟨nI_pos' (by omega), nI_lt q (by omega)⟩
    refine v_int (b2_t ?_).symm rfl
    unfold wF
    rw [if_neg hlt]
/-! fits -/
theorem ab_len {P : Nat → Nat} : ∀ (as : List Nat) (k : Nat), (∀ s ∈ as, P s = 0) → finb P k as = true → skipL P k as = k
  | as, 0, _, _ => by simp [skipL]
  | [], k + 1, _, h => by simp [finb] at h
  | s :: as, k + 1, hs, h => by
    rw [finb, hs s List.mem_cons_self, Nat.add_zero] at h
    rw [skipL, hs s List.mem_cons_self, Nat.add_zero, ab_len as k (fun x hx => hs x (List.mem_cons_of_mem _ hx)) h]
    omega
def VT (S : zS) (B : Bk) (c : Nat) (xF xG : Int32) (f g : List Nat) : Prop := (1 ≤ bP B c → ∃ F, xF = nI F ∧ HT S F f ∧ CT B f) ∧ (2 ≤ bP B c → ∃ G, xG = nI G ∧ HT S G g ∧ CT B g)
theorem vt_up (hX : FX S B V) {c ab : Nat} {as : List Nat} {xF xG x0 x1 : Int32} {f g : List Nat} (hc : c < 4) (he : bT B (12 + c) = ab :: as) (hv : VT S B c xF xG f g) (h0 : ∀ s, as[0]? = some s → x0 = nI s) (h1 : ∀ s, as[1]? = some s → x1 = nI s) : ab < c ∧ VT S B ab (if x0 = 4 then xF else if x0 = 5 then xG else x0) (if x1 = 4 then xF else if x1 = 5 then xG else x1) (put (as.getD 0 0) f g) (put (as.getD 1 0) f g) := by
  obtain ⟨hB, hW, hV, hrow⟩ := hX
  have h4 := hW.1
  rcases hW.2.2.2.2.2 c hc with e | e
  · rw [e] at he; cases he
  · obtain ⟨hcn, ⟨t1, t2, t3⟩, a, as', e, hac, hz⟩ := e
    rw [e] at he
    cases he
    rw [e] at t1 t2 t3
    rw [finb, Nat.zero_add] at t1
    have hl := ab_len as _ hz t1
    rw [skipL, Nat.zero_add, hl] at t2
    have hlen : as.length = bP B ab := by simp only [List.length_cons] at t2; omega
    have one : ∀ (i : Nat) (xi : Int32), i < as.length → (∀ s, as[i]? = some s → xi = nI s) → ∃ F, (if xi = 4 then xF else if xi = 5 then xG else xi) = nI F ∧ HT S F (put (as.getD i 0) f g) ∧ CT B (put (as.getD i 0) f g) := by
      intro i xi hi hxi
      have hs : as[i]? = some as[i] := List.getElem?_eq_getElem hi
      have hxi := hxi _ hs
      have hmem : as[i] ∈ as := List.getElem_mem hi
      have hgd : as.getD i 0 = as[i] := by rw [List.getD_eq_getElem?_getD, hs]; rfl
      rw [hgd]
      generalize as[i] = s at hs hxi hmem
      have hso := t3 s (List.mem_cons_of_mem _ hmem)
      subst hxi
      rcases hso with hso | ⟨rfl, hp⟩ | ⟨rfl, hp⟩
      · have n4 : ¬ nI s = 4 := fun q => by have := eq_n (b := 4) q; omega
        have n5 : ¬ nI s = 5 := fun q => by have := eq_n (b := 5) q; omega
        rw [if_neg n4, if_neg n5]
        have ep : put s f g = [s] := by unfold put; rw [if_neg (by omega), if_neg (by omega)]
        rw [ep]
        refine ⟨s, rfl, ⟨At.cons_iff.mpr ⟨hrow s (by omega), At.nil⟩, by simp; omega⟩, fun x hx => by simp at hx; omega, ?_, ?_⟩
        · simp [finb, hz s hmem]
        · simp [skipL, hz s hmem]
      · rw [if_pos (show nI 4 = 4 from rfl)]
        exact hv.1 hp
      · rw [if_neg (show ¬ nI 5 = 4 by decide), if_pos (show nI 5 = 5 from rfl)]
        exact hv.2 hp
    exact ⟨hac, fun hp => one 0 x0 (by omega) h0, fun hp => one 1 x1 (by omega) h1⟩
end
