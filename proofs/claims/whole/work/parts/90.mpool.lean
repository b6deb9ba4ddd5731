/-! the reference: lengthOf, add, addSlot, addPut -/
def apPost (S0 : zS) (n : Nat) (t : List Nat) : Value → zS → Prop := fun v S' => v = .int (nI n) ∧ Am [17] [27] S0 S' ∧ S'.1 0 27 = nI (n + t.length) ∧ (∀ i, i < n → S'.1 17 i = S0.1 17 i) ∧ At (S'.1 17) n t
theorem enc_10 : ∀ s, s < 6 → (¬ (10 : Int32) ≤ nI (enc s) ↔ s < 4) := by decide
theorem ct_sg {B : Bk} {u : List Nat} (h : CT B u) (c : Nat) : ∀ s ∈ u, sgOk B c s := fun s hs => Or.inl (h.1 s hs)
theorem ct_enc {B : Bk} {u : List Nat} (h4 : bN B ≤ 4) (h : ∀ s ∈ u, s < bN B) : u.map enc = u := by
  induction u with
  | nil => rfl
  | cons s u ih =>
    rw [List.map_cons, enc_lt (by have := h s List.mem_cons_self; omega), ih (fun y hy => h y (List.mem_cons_of_mem _ hy))]
section
variable {l : Launch} {D : va_G} {ad : Nat → Nat} {cA : ClassId} {x y z w : Int32} {S S' S0 : zS} {m : Mt} {B : Bk} {t u : List Nat} {n p k r c j s o a N : Nat}
theorem lp_len (hB : BkM S B) (hW : WfB B) (hr : Nat.blt r 27 = true) (hN : wM.2.1 r = .inr N) (hN2 : N < 2 ^ 30) : ∀ (t : List Nat) (p o : Nat), finb (bP B) o t = true → skipL (bP B) o t = t.length → (∀ s ∈ t, sgOk B c s) → p + t.length ≤ N → o ≤ t.length → At (S.1 r) p (t.map enc) → Go (l, wM, D, ad, cA) 0 m_M_lengthOf (fun v S' => v = .int (nI (p + t.length) - x) ∧ S' = S) 5 [some (.ref 0), some (.ref r), some (.int x), some (.int (nI o)), some (.int (nI p))] [] S := by
  intro t
  induction t with
  | nil =>
    intro p o hf hk hs hp ho hA
    simp only [List.length_nil] at ho
    have e0 : o = 0 := by omega
    subst e0
    refine (g_ld rfl rfl rfl (g_if rfl rfl (fun zc6 => (g_ld rfl rfl rfl (g_ld rfl rfl rfl (g_bin rfl rfl (g_ri rfl rfl rfl ?_))))) (fun zc6 => ?_)))
    · exact ⟨rfl, rfl⟩
    · exact absurd (by decide) zc6
  | cons s t ih =>
    intro p o hf hk hs hp ho hA
    simp only [List.length_cons] at hp ho
    cases o with
    | zero => simp [skipL] at hk
    | succ o =>
      have h4 := hW.1
      have hP2 := hW.2.1 s
      rw [finb] at hf
      rw [skipL, List.length_cons] at hk
      rw [List.map_cons] at hA
      obtain ⟨t0, t1⟩ := At.cons_iff.mp hA
      have hs0 := hs s List.mem_cons_self
      have hs6 : s < 6 := sg6 hW hs0
      have hfl := finb_len _ _ hf
      have r0 : S.1 r (nI p).toNatClampNeg = nI (enc s) := by rw [nI_clamp (by omega)]; exact t0
      have hin : vp_in (nI p) N := vp_in_nI (by omega) (by omega)
      have ih' := ih (p + 1) (o + bP B s) hf (by omega) (fun y hy => hs y (List.mem_cons_of_mem _ hy)) (by omega) hfl t1
      rw [show p + 1 + t.length = p + (s :: t).length by rw [List.length_cons]; omega, nI_succ p] at ih'
      refine (g_ld rfl rfl rfl (g_if rfl rfl (fun zc6 => (g_ld rfl rfl rfl (g_ld rfl rfl rfl (g_bin rfl rfl (g_ri rfl rfl rfl ?_))))) (fun zc6 => (g_inc rfl rfl rfl rfl ?_))))
      · exact absurd zc6 (nI_nle (by omega) (by omega))
      · rw [pk_m1]
        refine (g_ld rfl rfl rfl (g_ld rfl rfl rfl (g_ld rfl rfl rfl (g_ald rfl hr hN hin (g_c rfl rfl (g_if rfl rfl (fun zc19 => ?_) (fun zc19 => ?_)))))))
        · rw [r0] at zc19
          have h4s : ¬ s < 4 := fun g => (enc_10 s hs6).mpr g zc19
          have hz : bP B s = 0 := (hW.2.2.1 s (by omega)).1
          rw [hz, Nat.add_zero] at ih'
          refine (g_c rfl rfl (g_bin rfl rfl (g_st rfl rfl rfl rfl rfl (g_inc rfl rfl rfl rfl (g_go rfl ?_)))))
          rw [show nI o + 0 = nI (o + 0) from nI_add o 0, Nat.add_zero]
          exact ih'
        · rw [r0] at zc19
          have h4s : s < 4 := (enc_10 s hs6).mp zc19
          have hsn : s < bN B := by
            rcases hs0 with g | g | g
            · exact g
            · omega
            · omega
          refine (g_ld rfl rfl rfl (g_gr rfl rfl rfl rfl rfl (g_ld rfl rfl rfl (g_ld rfl rfl rfl (g_ald rfl hr hN hin ?_)))))
          rw [r0, enc_lt h4s]
          refine (g_ald rfl rfl rfl ?_ (g_go rfl (g_bin rfl rfl (g_st rfl rfl rfl rfl rfl (g_inc rfl rfl rfl rfl (g_go rfl ?_))))))
          · exact vp_in_nI h4s (by decide)
          · rw [nI_clamp (by omega), hB.2.1 s hsn, nI_add]
            exact ih'
theorem s_lengthOf (hB : BkM S B) (hW : WfB B) (hr : Nat.blt r 27 = true) (hN : wM.2.1 r = .inr N) (hN2 : N < 2 ^ 30) (hf : finb (bP B) 1 t = true) (hk : skipL (bP B) 1 t = t.length) (hs : ∀ s ∈ t, sgOk B c s) (hp : a + t.length ≤ N) (hA : At (S.1 r) a (t.map enc)) (hx : x = nI a) : Sp (l, wM, D, ad, cA) 0 m_M_lengthOf [.ref 0, .ref r, .int x] S (fun v S' => v = .int (nI t.length) ∧ S' = S) := by
  subst hx
  refine Sp.of dk_M_lengthOf ok_M_lengthOf rfl (g_c rfl rfl (g_st rfl rfl rfl rfl rfl (g_ld rfl rfl rfl (g_st rfl rfl rfl rfl rfl ?_))))
  have := lp_len (l := l) (D := D) (ad := ad) (cA := cA) (x := nI a) hB hW hr hN hN2 t a 1 hf hk hs hp (finb_len _ _ hf) hA
  rw [show nI (a + t.length) - nI a = nI t.length by rw [pk_sub (by omega), Nat.add_sub_cancel_left]] at this
  exact this
theorem s_addM (hn : n < 4000) (h27 : S.1 0 27 = nI n) : Sp (l, wM, D, ad, cA) 0 m_M_add [.ref 0, .int x] S (fun v S' => v = .null ∧ S' = z_ui (z_ui S 17 n x) 0 27 (nI (n + 1))) := by
  refine Sp.of dk_M_add ok_M_add rfl (g_ld rfl rfl rfl (g_gr rfl rfl rfl rfl rfl (g_ld rfl rfl rfl (g_gi rfl rfl rfl rfl rfl (g_ld rfl rfl rfl (g_ast rfl rfl rfl ?_ (g_ld rfl rfl rfl (g_dup rfl rfl (g_gi rfl rfl rfl rfl rfl (g_c rfl rfl (g_bin rfl rfl (g_pi rfl rfl rfl rfl rfl rfl rfl (g_rv rfl rfl ?_)))))))))))))
  · rw [h27]; exact vp_in_nI hn (by decide)
  · refine ⟨rfl, ?_⟩
    rw [h27, nI_clamp (by omega), ui_ne (by decide), h27, nI_succ]
/-- one more sign in the pool -/
theorem ap_push {b : List Nat} (hA : Am [17] [27] S0 S) (hlow : ∀ i, i < n → S.1 17 i = S0.1 17 i) (hAt : At (S.1 17) n b) : Am [17] [27] S0 (z_ui (z_ui S 17 (n + b.length) (nI s)) 0 27 (nI (n + b.length + 1))) ∧ (z_ui (z_ui S 17 (n + b.length) (nI s)) 0 27 (nI (n + b.length + 1))).1 0 27 = nI (n + (b ++ [s]).length) ∧ (∀ i, i < n → (z_ui (z_ui S 17 (n + b.length) (nI s)) 0 27 (nI (n + b.length + 1))).1 17 i = S0.1 17 i) ∧ At ((z_ui (z_ui S 17 (n + b.length) (nI s)) 0 27 (nI (n + b.length + 1))).1 17) n (b ++ [s]) := by
  refine ⟨(hA.ui (by decide) (by decide)).fd (by decide), ?_, fun i hi => ?_, ?_⟩
  · rw [ui_at, pk_us, List.length_append]; rfl
  · rw [ui_ne (by decide), ui_at, pk_un (by omega)]; exact hlow i hi
  · rw [ui_ne (by decide), ui_at]
    exact At.push hAt
theorem lp_aslot (h12 : S0.1 12 k = nI u.length) (h13 : At (S0.1 13) (16 * k) u) (hk8 : k < 8) (hu : u.length ≤ 15) (hn : n + u.length ≤ 4000) : ∀ (r i : Nat) (S : zS), i + r = u.length → Am [17] [27] S0 S → S.1 0 27 = nI (n + i) → (∀ i, i < n → S.1 17 i = S0.1 17 i) → At (S.1 17) n (u.take i) → Go (l, wM, D, ad, cA) 1 m_M_addSlot (apPost S0 n u) 7 [some (.ref 0), some (.int (nI k)), some (.int (nI n)), some (.int (nI i))] [] S
  | 0, i, S, e, hA, h27, hlow, hAt => by
    have e8 : i = u.length := by omega
    subst e8
    rw [List.take_of_length_le (Nat.le_refl _)] at hAt
    refine (g_ld rfl rfl rfl (g_ld rfl rfl rfl (g_gr rfl rfl rfl rfl rfl (g_ld rfl rfl rfl (g_ald rfl rfl rfl ?_ (g_if rfl rfl (fun zc14 => (g_ld rfl rfl rfl (g_ri rfl rfl rfl ?_))) (fun zc14 => ?_)))))))
    · exact vp_in_nI hk8 (by decide)
    · exact ⟨rfl, hA, h27, hlow, hAt⟩
    · rw [nI_clamp (by omega), hA.1 12 (by decide) (by decide), h12] at zc14
      exact absurd (Int32.le_refl _) zc14
  | r + 1, i, S, e, hA, h27, hlow, hAt => by
    have hi : i < u.length := by omega
    have h27' := h27
    have hlen : (u.take i).length = i := by simp; omega
    refine (g_ld rfl rfl rfl (g_ld rfl rfl rfl (g_gr rfl rfl rfl rfl rfl (g_ld rfl rfl rfl (g_ald rfl rfl rfl ?_ (g_if rfl rfl (fun zc14 => (g_ld rfl rfl rfl (g_ri rfl rfl rfl ?_))) (fun zc14 => (g_ld rfl rfl rfl (g_ld rfl rfl rfl (g_gr rfl rfl rfl rfl rfl (g_c rfl rfl (g_ld rfl rfl rfl (g_bin rfl rfl (g_ld rfl rfl rfl (g_bin rfl rfl (g_ald rfl rfl rfl ?_ (g_cv rfl (s_addM (n := n + i) (by omega) h27') (by omega) rfl rfl rfl rfl rfl rfl rfl rfl rfl (fun zv29 zS29 zh29 => ?_))))))))))))))))))
    · exact vp_in_nI hk8 (by decide)
    · rw [nI_clamp (by omega), hA.1 12 (by decide) (by decide), h12] at zc14
      have := le_n zc14
      omega
    · rw [e16]; exact vp_in_nI (show 16 * k + i < 128 by omega) (by decide)
    · obtain ⟨rfl, rfl⟩ := zh29
      rw [e16, nI_clamp (by omega), hA.1 13 (by decide) (by decide), h13 i hi]
      obtain ⟨p1, p2, p3, p4⟩ := ap_push (s := u.getD i 0) hA hlow hAt
      rw [hlen] at p1 p2 p3 p4
      rw [← take_s hi] at p2 p4
      refine (g_inc rfl rfl rfl rfl (g_go rfl ?_))
      have := lp_aslot h12 h13 hk8 hu hn r (i + 1) _ (by omega) p1 (by rw [p2, List.length_take, Nat.min_eq_left (by omega)]) p3 p4
      rw [nI_succ i] at this
      exact this
theorem s_addSlot (h27 : S.1 0 27 = nI n) (h12 : S.1 12 k = nI u.length) (h13 : At (S.1 13) (16 * k) u) (hk8 : k < 8) (hu : u.length ≤ 15) (hn : n + u.length ≤ 4000) (hx : x = nI k) : Sp (l, wM, D, ad, cA) 1 m_M_addSlot [.ref 0, .int x] S (apPost S n u) := by
  subst hx
  refine Sp.of dk_M_addSlot ok_M_addSlot rfl (g_ld rfl rfl rfl (g_gi rfl rfl rfl rfl rfl (g_st rfl rfl rfl rfl rfl (g_c rfl rfl (g_st rfl rfl rfl rfl rfl ?_)))))
  rw [h27]
  exact lp_aslot h12 h13 hk8 hu hn u.length 0 S (by omega) Am.rf h27 (fun _ _ => rfl) At.nil
end
