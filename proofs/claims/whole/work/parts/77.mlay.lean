/-! the reference: layType -/
def ltPost (S0 : zS) (r : Nat × Nat) : Value → zS → Prop := fun v S' => v = .null ∧ Am [16] [24, 25] S0 S' ∧ S'.1 0 24 = nI r.1 ∧ S'.1 0 25 = nI r.2
theorem or_n : ∀ a, a < 4 → ∀ b, b < 4 → nI a ||| nI b = nI (a ||| b) := by decide +kernel
theorem e2m (s p : Nat) : 2 * nI s + nI p = nI (2 * s + p) := by rw [show (2 : Int32) = nI 2 from rfl, pk_mul, nI_add]
section
variable {l : Launch} {D : va_G} {ad : Nat → Nat} {cA : ClassId} {x y z w : Int32} {S S' S0 : zS} {m : Mt} {B : Bk} {V : Nat → Nat} {n p k r q c t : Nat}
theorem lp_la {s w pp : Nat} {x1 x2 : Int32} (hs : s < 4) (hw : w < 4) (hV : ∀ j, V j < 4) {Post : Value → zS → Prop} : ∀ (k o : Nat) (S : zS), k ≤ 2 → o + k ≤ 200 → (∀ j, j < 8 → S.1 14 j = nI (V j)) → (∀ (S' : zS) (w7 : Option Value), Am [16] [] S S' → (∀ i, i < o → S'.1 16 i = S.1 16 i) → At (S'.1 16) o ((List.range k).map (fun p => thr w (V (2 * s + p)))).reverse → Go (l, wM, D, ad, cA) 2 m_M_layType Post 22 [some (.ref 0), some (.int x1), some (.int x2), some (.int (nI (o + k))), some (.int (nI pp)), some (.int (nI w)), some (.int (nI s)), w7] [] S') → Go (l, wM, D, ad, cA) 2 m_M_layType Post 102 [some (.ref 0), some (.int x1), some (.int x2), some (.int (nI o)), some (.int (nI pp)), some (.int (nI w)), some (.int (nI s)), some (.int (nI k + (-1)))] [] S
  | 0, o, S, _, _, _, K => by
    refine (g_ld rfl rfl rfl (g_if rfl rfl (fun zc104 => (g_go rfl ?_)) (fun zc104 => ?_)))
    · exact K S _ Am.rf (fun _ _ => rfl) At.nil
    · exact absurd (by decide) zc104
  | k + 1, o, S, hk, ho, h14, K => by
    rw [pk_m1]
    refine (g_ld rfl rfl rfl (g_if rfl rfl (fun zc104 => (g_go rfl ?_)) (fun zc104 => (g_ld rfl rfl rfl (g_gr rfl rfl rfl rfl rfl (g_ld rfl rfl rfl (g_ld rfl rfl rfl (g_ld rfl rfl rfl (g_gr rfl rfl rfl rfl rfl (g_c rfl rfl (g_ld rfl rfl rfl (g_bin rfl rfl (g_ld rfl rfl rfl (g_bin rfl rfl (g_ald rfl rfl rfl ?_ ?_)))))))))))))))
    · exact absurd zc104 (nI_pos (by omega))
    · rw [e2m]; exact vp_in_nI (show 2 * s + k < 8 by omega) (by decide)
    · rw [e2m, nI_clamp (by omega), h14 _ (by omega)]
      refine (g_cs rfl (s_throughM hw (hV _)) (by omega) rfl rfl rfl rfl rfl rfl (z_k1 (g_ast rfl rfl rfl ?_ (g_inc rfl rfl rfl rfl (g_inc rfl rfl rfl rfl (g_go rfl ?_))))))
      · exact vp_in_nI (show o < 200 by omega) (by decide)
      · rw [nI_clamp (by omega)]
        have := lp_la hs hw hV k (o + 1) (z_ui S 16 o (nI (thr w (V (2 * s + k))))) (by omega) (by omega) (by rw [ui_ne (by decide)]; exact h14) (fun S' w7 hA hl hAt => by
          have hK := K S' w7 ((Am.rf.ui (by decide) (by decide)).tr hA) (fun i hi => by rw [hl i (by omega), ui_at, pk_un (by omega)]) (by
            rw [List.range_succ, List.map_append, List.reverse_append]
            refine At.cons_iff.mpr ⟨?_, hAt⟩
            rw [hl o (by omega), ui_at, pk_us])
          rw [show o + (k + 1) = o + 1 + k by omega] at hK
          exact hK)
        rw [nI_succ] at this
        exact this
theorem enc_lt {s : Nat} (h : s < 4) : enc s = s := by unfold enc; rw [if_neg (by omega), if_neg (by omega)]
theorem lp_lt (hB : BkM S0 B) (hW : WfB B) (hV : ∀ j, V j < 4) (h14 : ∀ j, j < 8 → S0.1 14 j = nI (V j)) {c : Nat} {x1 x2 : Int32} : ∀ (t : List Nat) (p : Nat) (ws : List Nat) (a b : Nat) (S : zS) (w5 w6 w7 : Option Value), finb (bP B) ws.length t = true → skipL (bP B) ws.length t = t.length → (∀ s ∈ t, sgOk B c s) → p + t.length ≤ 90 → ws.length + t.length ≤ 91 → At (S0.1 10) p (t.map enc) → (∀ x ∈ ws, x < 4) → a < 4 → b < 4 → Am [16] [24, 25] S0 S → S.1 0 24 = nI a → S.1 0 25 = nI b → At (S.1 16) 0 ws.reverse → Go (l, wM, D, ad, cA) 2 m_M_layType (ltPost S0 ((a ||| (tl (bP B) V t ws).1), (b ||| (tl (bP B) V t ws).2))) 22 [some (.ref 0), some (.int x1), some (.int x2), some (.int (nI ws.length)), some (.int (nI p)), w5, w6, w7] [] S := by
  intro t
  induction t with
  | nil =>
    intro p ws a b S w5 w6 w7 hf hk hs hp hl hT hw ha hb hA h24 h25 hG
    cases ws with
    | nil =>
      refine (g_ld rfl rfl rfl (g_if rfl rfl (fun zc23 => (g_rv rfl rfl ?_)) (fun zc23 => ?_)))
      · exact ⟨rfl, hA, by rw [h24]; simp [tl], by rw [h25]; simp [tl]⟩
      · exact absurd (by decide) zc23
    | cons w ws => simp [finb] at hf
  | cons s t ih =>
    intro p ws a b S w5 w6 w7 hf hk hs hp hl hT hw ha hb hA h24 h25 hG
    cases ws with
    | nil => simp [skipL] at hk
    | cons w ws =>
      have h4 := hW.1
      have hP2 := hW.2.1 s
      have hw0 := hw w List.mem_cons_self
      have hws : ∀ x ∈ ws, x < 4 := fun x hx => hw x (List.mem_cons_of_mem _ hx)
      have hs0 := hs s List.mem_cons_self
      have hs1 : ∀ s ∈ t, sgOk B c s := fun x hx => hs x (List.mem_cons_of_mem _ hx)
      simp only [List.length_cons] at hp hl
      rw [List.length_cons, finb] at hf
      rw [List.length_cons, skipL, List.length_cons] at hk
      rw [List.map_cons] at hT
      obtain ⟨t0, t1⟩ := At.cons_iff.mp hT
      rw [List.reverse_cons, At.app_iff, List.length_reverse] at hG
      have g0 : S.1 16 (nI (w :: ws).length + (-1)).toNatClampNeg = nI w := by
        rw [List.length_cons, pk_m1, nI_clamp (by omega)]
        have := hG.2 0 (by simp)
        simpa using this
      have gl : nI (w :: ws).length + (-1) = nI ws.length := by rw [List.length_cons, pk_m1]
      have r10 : S.1 10 (nI p).toNatClampNeg = nI (enc s) := by rw [nI_clamp (by omega), hA.1 10 (by decide) (by decide)]; exact t0
      have hG1 : At (S.1 16) 0 ws.reverse := hG.1
      refine (g_ld rfl rfl rfl (g_if rfl rfl (fun zc23 => (g_rv rfl rfl ?_)) (fun zc23 => (g_inc rfl rfl rfl rfl (g_ld rfl rfl rfl (g_gr rfl rfl rfl rfl rfl (g_ld rfl rfl rfl (g_ald rfl rfl rfl ?_ (g_st rfl rfl rfl rfl rfl (g_ld rfl rfl rfl (g_gr rfl rfl rfl rfl rfl (g_ld rfl rfl rfl (g_ald rfl rfl rfl ?_ (g_st rfl rfl rfl rfl rfl (g_inc rfl rfl rfl rfl ?_)))))))))))))))
      · exact absurd zc23 (nI_nle (by simp) (by simp; omega))
      · rw [gl]; exact vp_in_nI (show ws.length < 200 by omega) (by decide)
      · exact vp_in_nI (show p < 90 by omega) (by decide)
      · rw [g0, gl, r10, ← nI_succ]
        rcases hs0 with hc | ⟨e4', hc⟩ | ⟨e5, hc⟩
        · have hs4 : s < 4 := by omega
          have hP : S.1 6 (nI (enc s)).toNatClampNeg = nI (bP B s) := by rw [enc_lt hs4, nI_clamp (by omega), hA.1 6 (by decide) (by decide)]; exact hB.2.1 s hc
          refine (g_ld rfl rfl rfl (g_c rfl rfl (g_if rfl rfl (fun zc53 => (g_ld rfl rfl rfl (g_c rfl rfl (g_if rfl rfl (fun zc74 => (g_ld rfl rfl rfl (g_gr rfl rfl rfl rfl rfl (g_ld rfl rfl rfl (g_ald rfl rfl rfl ?_ (g_c rfl rfl (g_bin rfl rfl (g_st rfl rfl rfl rfl rfl ?_)))))))) (fun zc74 => (g_ld rfl rfl rfl (g_dup rfl rfl (g_gi rfl rfl rfl rfl rfl (g_ld rfl rfl rfl (g_bin rfl rfl (g_pi rfl rfl rfl rfl rfl rfl rfl (g_go rfl (g_go rfl ?_))))))))))))) (fun zc53 => (g_ld rfl rfl rfl (g_dup rfl rfl (g_gi rfl rfl rfl rfl rfl (g_ld rfl rfl rfl (g_bin rfl rfl (g_pi rfl rfl rfl rfl rfl rfl rfl (g_go rfl (g_go rfl ?_))))))))))))
          · rw [enc_lt hs4]; exact vp_in_nI hs4 (by decide)
          · rw [hP, enc_lt hs4, Int32.sub_eq_add_neg]
            refine lp_la hs4 hw0 hV (bP B s) ws.length S hP2 (by omega) (by rw [hA.1 14 (by decide) (by decide)]; exact h14) (fun S' w7' hA' hlow hAt => ?_)
            have := ih (p + 1) (aw (bP B) V s w ++ ws) a b S' (some (.int (nI w))) (some (.int (nI s))) w7' (by rw [List.length_append, aw_len, Nat.add_comm]; exact hf) (by rw [List.length_append, aw_len, Nat.add_comm]; omega) hs1 (by omega) (by
              rw [List.length_append, aw_len]
              have hfl := finb_len _ _ hf
              omega) t1 (fun x hx => by
              rcases List.mem_append.mp hx with hx | hx
              · exact aw_lt hV hw0 x hx
              · exact hws x hx) ha hb (hA.tr (hA'.mono (by simp) (by simp))) (by rw [hA'.2.1 24 (by decide)]; exact h24) (by rw [hA'.2.1 25 (by decide)]; exact h25) (by
              rw [List.reverse_append, At.app_iff, List.length_reverse, Nat.zero_add]
              refine ⟨hG1.congr (fun j hj => ?_), hAt⟩
              rw [Nat.zero_add]
              exact hlow j (by simpa using hj))
            rw [List.length_append, aw_len, Nat.add_comm (bP B s)] at this
            rw [tl, if_neg (by omega), if_neg (by omega)]
            exact this
          · exfalso
            rw [enc_lt hs4] at zc74
            have := eq_n (b := 11) (Decidable.not_not.mp zc74)
            omega
          · exfalso
            rw [enc_lt hs4] at zc53
            have := eq_n (b := 10) (Decidable.not_not.mp zc53)
            omega
        · subst e4'
          have hz : bP B 4 = 0 := (hW.2.2.1 4 h4).1
          rw [hz] at hf hk
          refine (g_ld rfl rfl rfl (g_c rfl rfl (g_if rfl rfl (fun zc53 => ?_) (fun zc53 => (g_ld rfl rfl rfl (g_dup rfl rfl (g_gi rfl rfl rfl rfl rfl (g_ld rfl rfl rfl (g_bin rfl rfl (g_pi rfl rfl rfl rfl rfl rfl rfl (g_go rfl (g_go rfl ?_))))))))))))
          · exact absurd rfl zc53
          · have := ih (p + 1) ws (a ||| w) b (z_ui S 0 24 (nI (a ||| w))) (some (.int (nI w))) (some (.int (nI (enc 4)))) w7 hf (by rw [Nat.add_zero] at hk; omega) hs1 (by omega) (by omega) t1 hws (or_lt _ ha _ hw0) hb (hA.fd (by decide)) (by rw [ui_at, pk_us]) (by rw [ui_at, pk_un (by decide)]; exact h25) (by rw [ui_ne (by decide)]; exact hG1)
            rw [h24, or_n a ha w hw0, tl, if_pos rfl, ← Nat.or_assoc]
            exact this
        · subst e5
          have hz : bP B 5 = 0 := (hW.2.2.1 5 (by omega)).1
          rw [hz] at hf hk
          refine (g_ld rfl rfl rfl (g_c rfl rfl (g_if rfl rfl (fun zc53 => (g_ld rfl rfl rfl (g_c rfl rfl (g_if rfl rfl (fun zc74 => ?_) (fun zc74 => (g_ld rfl rfl rfl (g_dup rfl rfl (g_gi rfl rfl rfl rfl rfl (g_ld rfl rfl rfl (g_bin rfl rfl (g_pi rfl rfl rfl rfl rfl rfl rfl (g_go rfl (g_go rfl ?_))))))))))))) (fun zc53 => (g_ld rfl rfl rfl (g_dup rfl rfl (g_gi rfl rfl rfl rfl rfl (g_ld rfl rfl rfl (g_bin rfl rfl (g_pi rfl rfl rfl rfl rfl rfl rfl (g_go rfl (g_go rfl ?_))))))))))))
          · exact absurd rfl zc74
          · have := ih (p + 1) ws a (b ||| w) (z_ui S 0 25 (nI (b ||| w))) (some (.int (nI w))) (some (.int (nI (enc 5)))) w7 hf (by rw [Nat.add_zero] at hk; omega) hs1 (by omega) (by omega) t1 hws ha (or_lt _ hb _ hw0) (hA.fd (by decide)) (by rw [ui_at, pk_un (by decide)]; exact h24) (by rw [ui_at, pk_us]) (by rw [ui_ne (by decide)]; exact hG1)
            rw [h25, or_n b hb w hw0, tl, if_neg (by decide), if_pos rfl, ← Nat.or_assoc]
            exact this
          · exact absurd (Decidable.not_not.mp zc53) (by decide)
theorem s_layType (hB : BkM S B) (hW : WfB B) (hV : ∀ j, V j < 4) (h14 : ∀ j, j < 8 → S.1 14 j = nI (V j)) {c st w : Nat} {t : List Nat} (hT : TyOk B c t) (hA : At (S.1 10) st (t.map enc)) (h90 : st + t.length ≤ 90) (hw : w < 4) {x1 x2 : Int32} (hx1 : x1 = nI st) (hx2 : x2 = nI w) : Sp (l, wM, D, ad, cA) 2 m_M_layType [.ref 0, .int x1, .int x2] S (ltPost S (tl (bP B) V t [w])) := by
  subst hx1
  subst hx2
  refine Sp.of dk_M_layType ok_M_layType rfl (g_ld rfl rfl rfl (g_c rfl rfl (g_pi rfl rfl rfl rfl rfl rfl rfl (g_ld rfl rfl rfl (g_c rfl rfl (g_pi rfl rfl rfl rfl rfl rfl rfl (g_ld rfl rfl rfl (g_gr rfl rfl rfl rfl rfl (g_c rfl rfl (g_ld rfl rfl rfl (g_ast rfl rfl rfl ?_ (g_c rfl rfl (g_st rfl rfl rfl rfl rfl (g_ld rfl rfl rfl (g_st rfl rfl rfl rfl rfl ?_)))))))))))))))
  · exact vp_in_nI (n := 0) (by omega) (by omega)
  · have := lp_lt (l := l) (D := D) (ad := ad) (cA := cA) (S0 := S) (x1 := nI st) (x2 := nI w) hB hW hV h14 (c := c) t st [w] 0 0 (z_ui (z_ui (z_ui S 0 24 0) 0 25 0) 16 0 (nI w)) none none none hT.1 hT.2.1 hT.2.2 h90 (by simp; omega) hA (by simpa using hw) (by omega) (by omega) (((Am.rf.fd (by decide)).fd (by decide)).ui (by decide) (by decide)) (by rw [ui_ne (by decide), ui_at, pk_un (by decide), ui_at, pk_us]; rfl) (by rw [ui_ne (by decide), ui_at, pk_us]; rfl) (At.cons_iff.mpr ⟨by rw [ui_at]; rfl, At.nil⟩)
    have ht : ∀ t : Nat × Nat, ((0 ||| t.1), (0 ||| t.2)) = t := fun t => by simp
    rw [ht] at this
    exact this
end
