/-! the reference: addPut -/
theorem arg0_len {B : Bk} {u : List Nat} : (arg (bP B) u 0).length = skipL (bP B) 1 u.tail := by
  have := skipL_le (P := bP B) u.tail 1
  show (u.tail.take (skipL (bP B) 1 u.tail)).length = _
  rw [List.length_take, Nat.min_eq_left this]
theorem sub_len {f g : List Nat} {L : Nat} (hf : f.length ≤ L) (hg : g.length ≤ L) (h1 : 1 ≤ L) : ∀ t : List Nat, (sub t f g).length ≤ t.length * L
  | [] => by simp [sub]
  | s :: t => by
    have ih := sub_len hf hg h1 t
    rw [sub, List.length_append, List.length_cons, Nat.succ_mul]
    have : (put s f g).length ≤ L := by
      unfold put
      split
      · exact hf
      · split
        · exact hg
        · simpa using h1
    omega
section
variable {l : Launch} {D : va_G} {ad : Nat → Nat} {cA : ClassId} {x y z w : Int32} {S S' S0 : zS} {m : Mt} {B : Bk} {t u A : List Nat} {n p k r c j s o a b N : Nat} {x1 x2 x3 x4 x5 x6 : Int32}
theorem lp_apI {bb : List Nat} (hsrc : At (S0.1 17) b A) (hb : b + A.length ≤ n) (hn : n + bb.length + A.length ≤ 4000) {Post : Value → zS → Prop} (K : ∀ T, Am [17] [27] S0 T → T.1 0 27 = nI (n + (bb ++ A).length) → (∀ i, i < n → T.1 17 i = S0.1 17 i) → At (T.1 17) n (bb ++ A) → Go (l, wM, D, ad, cA) 1 m_M_addPut Post 125 [some (.ref 0), some (.int x1), some (.int x2), some (.int x3), some (.int x4), some (.int x5), some (.int x6), some (.int (nI b)), some (.int (nI A.length)), some (.int (nI A.length))] [] T) : ∀ (r i : Nat) (S : zS), i + r = A.length → Am [17] [27] S0 S → S.1 0 27 = nI (n + bb.length + i) → (∀ i, i < n → S.1 17 i = S0.1 17 i) → At (S.1 17) n (bb ++ A.take i) → Go (l, wM, D, ad, cA) 1 m_M_addPut Post 98 [some (.ref 0), some (.int x1), some (.int x2), some (.int x3), some (.int x4), some (.int x5), some (.int x6), some (.int (nI b)), some (.int (nI A.length)), some (.int (nI i))] [] S
  | 0, i, S, e, hA, h27, hlow, hAt => by
    have e8 : i = A.length := by omega
    subst e8
    rw [List.take_of_length_le (Nat.le_refl _)] at hAt
    refine (g_ld rfl rfl rfl (g_ld rfl rfl rfl (g_if rfl rfl (fun zc102 => ?_) (fun zc102 => ?_))))
    · exact K S hA (by rw [h27, List.length_append, Nat.add_assoc]) hlow hAt
    · exact absurd (Int32.le_refl _) zc102
  | r + 1, i, S, e, hA, h27, hlow, hAt => by
    have hi : i < A.length := by omega
    have h27' := h27
    have hlen : (A.take i).length = i := by simp; omega
    refine (g_ld rfl rfl rfl (g_ld rfl rfl rfl (g_if rfl rfl (fun zc102 => ?_) (fun zc102 => (g_ld rfl rfl rfl (g_ld rfl rfl rfl (g_gr rfl rfl rfl rfl rfl (g_ld rfl rfl rfl (g_ld rfl rfl rfl (g_bin rfl rfl (g_ald rfl rfl rfl ?_ (g_cv rfl (s_addM (n := n + bb.length + i) (by omega) h27') (by omega) rfl rfl rfl rfl rfl rfl rfl rfl rfl (fun zv116 zS116 zh116 => ?_)))))))))))))
    · have := le_n zc102
      omega
    · rw [nI_add]; exact vp_in_nI (show b + i < 4000 by omega) (by decide)
    · obtain ⟨rfl, rfl⟩ := zh116
      rw [nI_add, nI_clamp (by omega), hlow (b + i) (by omega), hsrc i hi]
      obtain ⟨p1, p2, p3, p4⟩ := ap_push (s := A.getD i 0) hA hlow hAt
      have hll : (bb ++ A.take i).length = bb.length + i := by rw [List.length_append, hlen]
      rw [hll, ← Nat.add_assoc] at p1 p2 p3 p4
      rw [List.append_assoc, ← take_s hi] at p2 p4
      refine (g_inc rfl rfl rfl rfl (g_go rfl ?_))
      have := lp_apI hsrc hb hn K r (i + 1) _ (by omega) p1 (by rw [ui_at, pk_us, Nat.add_assoc (n + bb.length)]) p3 p4
      rw [nI_succ i] at this
      exact this
end
section
variable {l : Launch} {D : va_G} {ad : Nat → Nat} {cA : ClassId} {x y z w : Int32} {S S' S0 : zS} {m : Mt} {B : Bk} {t u A : List Nat} {n p k r c j s o a b N st of : Nat} {x1 x2 x3 x4 x5 x6 : Int32}
theorem BkM.am {ks fs : List Nat} (h : BkM S B) (hA : Am ks fs S S') (h0 : ∀ k, k ∈ [6, 7, 8, 9, 10] → k ∉ ks := by decide) (h1 : 10 ∉ fs := by decide) : BkM S' B := h.ag (hA.2.1 _ h1) (hA.1 _ (by decide) (h0 6 (by decide))) (hA.1 _ (by decide) (h0 7 (by decide))) (hA.1 _ (by decide) (h0 8 (by decide))) (hA.1 _ (by decide) (h0 9 (by decide))) (hA.1 _ (by decide) (h0 10 (by decide)))
theorem lp_ap (hB : BkM S0 B) (hW : WfB B) (hu : CT B u) (hof : At (S0.1 17) of u) (hofn : of + u.length ≤ n) (hst : st + t.length ≤ 90) (ht : At (S0.1 10) st (t.map enc)) (hsg : ∀ s ∈ t, sgOk B (ahd u) s) (hn4 : n + (sub t (arg (bP B) u 0) (arg (bP B) u 1)).length ≤ 4000) : ∀ (v : List Nat) (i : Nat) (bb : List Nat) (S : zS) (w6 w7 w8 w9 : Option Value), t.drop i = v → i + v.length = t.length → bb ++ sub v (arg (bP B) u 0) (arg (bP B) u 1) = sub t (arg (bP B) u 0) (arg (bP B) u 1) → Am [17] [27] S0 S → S.1 0 27 = nI (n + bb.length) → (∀ i, i < n → S.1 17 i = S0.1 17 i) → At (S.1 17) n bb → Go (l, wM, D, ad, cA) 1 m_M_addPut (apPost S0 n (sub t (arg (bP B) u 0) (arg (bP B) u 1))) 19 [some (.ref 0), some (.int (nI st)), some (.int (nI of)), some (.int (nI n)), some (.int (nI t.length)), some (.int (nI i)), w6, w7, w8, w9] [] S := by
  intro v
  induction v with
  | nil =>
    intro i bb S w6 w7 w8 w9 hv hi hbb hA h27 hlow hAt
    simp only [List.length_nil, Nat.add_zero] at hi
    rw [sub, List.append_nil] at hbb
    rw [hi, ← hbb]
    refine (g_ld rfl rfl rfl (g_ld rfl rfl rfl (g_if rfl rfl (fun zc23 => (g_ld rfl rfl rfl (g_ri rfl rfl rfl ?_))) (fun zc23 => ?_))))
    · exact ⟨rfl, hA, h27, hlow, hAt⟩
    · exact absurd (Int32.le_refl _) zc23
  | cons s v ih =>
    intro i bb S w6 w7 w8 w9 hv hi hbb hA h27 hlow hAt
    simp only [List.length_cons] at hi
    have h4 := hW.1
    have hlen : n + bb.length + (put s (arg (bP B) u 0) (arg (bP B) u 1)).length + (sub v (arg (bP B) u 0) (arg (bP B) u 1)).length ≤ 4000 := by
      rw [← hbb, sub, List.length_append, List.length_append] at hn4
      omega
    have hsm : t.getD i 0 = s ∧ t.drop (i + 1) = v ∧ s ∈ t := by
      have e : t[i]? = some s := by rw [← List.head?_drop, hv]; rfl
      refine ⟨by rw [List.getD_eq_getElem?_getD, e]; rfl, ?_, List.mem_of_getElem? e⟩
      rw [← List.drop_drop, hv]; rfl
    have hs0 := hsg s hsm.2.2
    have hs6 := sg6 hW hs0
    have r10 : S.1 10 (nI st + nI i).toNatClampNeg = nI (enc s) := by
      rw [nI_add, nI_clamp (by omega), hA.1 10 (by decide) (by decide)]
      have := ht i (by rw [List.length_map]; omega)
      rw [this, ← hsm.1]
      congr 1
      rw [List.getD_eq_getElem?_getD, List.getD_eq_getElem?_getD, List.getElem?_map, List.getElem?_eq_getElem (by omega)]
      rfl
    have h27' := h27
    have hB2 : BkM S B := hB.am hA
    -- an argument of u, copied
    have cpA : ∀ (pp aa : Nat), pp < bP B (ahd u) → aa = of + 1 + (if pp = 0 then 0 else skipL (bP B) 1 u.tail) → put s (arg (bP B) u 0) (arg (bP B) u 1) = arg (bP B) u pp → ∀ x6, Go (l, wM, D, ad, cA) 1 m_M_addPut (apPost S0 n (sub t (arg (bP B) u 0) (arg (bP B) u 1))) 81 [some (.ref 0), some (.int (nI st)), some (.int (nI of)), some (.int (nI n)), some (.int (nI t.length)), some (.int (nI i)), some (.int x6), w7, w8, w9] [.int (nI aa)] S := by
      intro pp aa hpp haa hput x6
      obtain ⟨ac, al, aat⟩ := arg_pos hW hu hpp
      obtain ⟨b1, b2⟩ := aat (S0.1 17) of hof
      rw [← haa] at b1
      rw [hput] at hlen
      have hle : aa + (arg (bP B) u pp).length ≤ n := by omega
      have hAs : At (S.1 17) aa (arg (bP B) u pp) := b1.congr (fun j hj => hlow _ (by omega))
      have hAe : At (S.1 17) aa ((arg (bP B) u pp).map enc) := by rw [ct_enc h4 ac.1]; exact hAs
      refine (g_st rfl rfl rfl rfl rfl (g_ld rfl rfl rfl (g_ld rfl rfl rfl (g_gr rfl rfl rfl rfl rfl (g_ld rfl rfl rfl (g_cv rfl (s_lengthOf (N := 4000) (c := 0) hB2 hW rfl rfl (by decide) ac.2.1 ac.2.2 (ct_sg ac 0) (by omega) hAe rfl) (by omega) rfl rfl rfl rfl rfl rfl rfl rfl rfl (z_k1 ?_)))))))
      refine (g_st rfl rfl rfl rfl rfl (g_c rfl rfl (g_st rfl rfl rfl rfl rfl ?_)))
      refine lp_apI (bb := bb) (S0 := S0) b1 hle (by omega) (fun T hAT hT27 hTlow hTat => ?_) (arg (bP B) u pp).length 0 S (by omega) hA (by rw [h27, Nat.add_zero]) hlow (by rw [List.take_zero, List.append_nil]; exact hAt)
      refine (g_inc rfl rfl rfl rfl (g_go rfl ?_))
      have := ih (i + 1) (bb ++ arg (bP B) u pp) T (some (.int x6)) (some (.int (nI aa))) (some (.int (nI (arg (bP B) u pp).length))) (some (.int (nI (arg (bP B) u pp).length))) hsm.2.1 (by omega) (by rw [← hbb, sub, hput, List.append_assoc]) hAT hT27 hTlow hTat
      rw [nI_succ i] at this
      exact this
    refine (g_ld rfl rfl rfl (g_ld rfl rfl rfl (g_if rfl rfl (fun zc23 => (g_ld rfl rfl rfl (g_ri rfl rfl rfl ?_))) (fun zc23 => (g_ld rfl rfl rfl (g_gr rfl rfl rfl rfl rfl (g_ld rfl rfl rfl (g_ld rfl rfl rfl (g_bin rfl rfl (g_ald rfl rfl rfl ?_ (g_st rfl rfl rfl rfl rfl ?_)))))))))))
    · have := le_n zc23
      omega
    · rw [nI_add]; exact vp_in_nI (show st + i < 90 by omega) (by decide)
    · rw [r10]
      rcases hs0 with hc | ⟨e4', hc⟩ | ⟨e5, hc⟩
      · have hs4 : s < 4 := by omega
        have hput : put s (arg (bP B) u 0) (arg (bP B) u 1) = [s] := by unfold put; rw [if_neg (by omega), if_neg (by omega)]
        rw [hput] at hlen
        simp only [List.length_cons, List.length_nil] at hlen
        refine (g_ld rfl rfl rfl (g_c rfl rfl (g_if rfl rfl (fun zc41 => ?_) (fun zc41 => (g_ld rfl rfl rfl (g_ld rfl rfl rfl (g_cv rfl (s_addM (n := n + bb.length) (by omega) h27') (by omega) rfl rfl rfl rfl rfl rfl rfl rfl rfl (fun zv47 zS47 zh47 => ?_))))))))
        · exact absurd zc41 ((enc_10 s hs6).mpr hs4)
        · obtain ⟨rfl, rfl⟩ := zh47
          rw [enc_lt hs4]
          obtain ⟨p1, p2, p3, p4⟩ := ap_push (s := s) hA hlow hAt
          refine (g_go rfl (g_inc rfl rfl rfl rfl (g_go rfl ?_)))
          have := ih (i + 1) (bb ++ [s]) _ (some (.int (nI s))) w7 w8 w9 hsm.2.1 (by omega) (by rw [← hbb, sub, hput, List.append_assoc]) p1 p2 p3 p4
          rw [nI_succ i] at this
          exact this
      · subst e4'
        refine (g_ld rfl rfl rfl (g_c rfl rfl (g_if rfl rfl (fun zc41 => (g_ld rfl rfl rfl (g_c rfl rfl (g_if rfl rfl (fun zc57 => ?_) (fun zc57 => ?_))))) (fun zc41 => ?_))))
        · exact absurd rfl zc57
        · refine (g_ld rfl rfl rfl (g_c rfl rfl (g_bin rfl rfl (g_go rfl ?_))))
          rw [← nI_succ]
          exact cpA 0 (of + 1) hc rfl rfl _
        · exact absurd (by decide) zc41
      · subst e5
        have hP2 := hW.2.1 (ahd u)
        obtain ⟨ac, al, aat⟩ := arg_pos hW hu (p := 0) (by omega)
        obtain ⟨b1, b2⟩ := aat (S0.1 17) of hof
        rw [if_pos rfl, Nat.add_zero] at b1 b2
        have hAs : At (S.1 17) (of + 1) (arg (bP B) u 0) := b1.congr (fun j hj => hlow _ (by omega))
        have hAe : At (S.1 17) (of + 1) ((arg (bP B) u 0).map enc) := by rw [ct_enc h4 ac.1]; exact hAs
        refine (g_ld rfl rfl rfl (g_c rfl rfl (g_if rfl rfl (fun zc41 => (g_ld rfl rfl rfl (g_c rfl rfl (g_if rfl rfl (fun zc57 => ?_) (fun zc57 => ?_))))) (fun zc41 => ?_))))
        · refine (g_ld rfl rfl rfl (g_c rfl rfl (g_bin rfl rfl (g_ld rfl rfl rfl (g_ld rfl rfl rfl (g_gr rfl rfl rfl rfl rfl (g_ld rfl rfl rfl (g_c rfl rfl (g_bin rfl rfl ?_)))))))))
          rw [← nI_succ]
          refine (g_cv rfl (s_lengthOf (N := 4000) (c := 0) hB2 hW rfl rfl (by decide) ac.2.1 ac.2.2 (ct_sg ac 0) (by omega) hAe rfl) (by omega) rfl rfl rfl rfl rfl rfl rfl rfl rfl (z_k1 ?_))
          refine (g_bin rfl rfl ?_)
          rw [nI_add, arg0_len]
          exact cpA 1 _ hc rfl rfl _
        · exact absurd (Decidable.not_not.mp zc57) (by decide)
        · exact absurd (by decide) zc41
theorem s_addPut (hB : BkM S B) (hW : WfB B) (hu : CT B u) (hof : At (S.1 17) of u) (hofn : of + u.length ≤ n) (hst : st + t.length ≤ 90) (ht : At (S.1 10) st (t.map enc)) (hT : TyOk B (ahd u) t) (h27 : S.1 0 27 = nI n) (hn4 : n + (sub t (arg (bP B) u 0) (arg (bP B) u 1)).length ≤ 4000) (hx : x = nI st) (hy : y = nI of) : Sp (l, wM, D, ad, cA) 1 m_M_addPut [.ref 0, .int x, .int y] S (apPost S n (sub t (arg (bP B) u 0) (arg (bP B) u 1))) := by
  subst hx
  subst hy
  refine Sp.of dk_M_addPut ok_M_addPut rfl (g_ld rfl rfl rfl (g_gi rfl rfl rfl rfl rfl (g_st rfl rfl rfl rfl rfl (g_ld rfl rfl rfl (g_ld rfl rfl rfl (g_gr rfl rfl rfl rfl rfl (g_ld rfl rfl rfl (g_cv rfl (s_lengthOf (N := 90) (c := ahd u) hB hW rfl rfl (by decide) hT.1 hT.2.1 hT.2.2 hst ht rfl) (by omega) rfl rfl rfl rfl rfl rfl rfl rfl rfl (z_k1 ?_)))))))))
  refine (g_st rfl rfl rfl rfl rfl (g_c rfl rfl (g_st rfl rfl rfl rfl rfl ?_)))
  rw [h27]
  exact lp_ap hB hW hu hof hofn hst ht hT.2.2 hn4 t 0 [] S none none none none rfl (by omega) rfl Am.rf (by rw [h27]; rfl) (fun _ _ => rfl) At.nil
end
