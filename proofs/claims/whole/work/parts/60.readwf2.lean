/-! each step keeps the form of types; what is read whole -/
theorem q5_of {z : Nat} (h : z ≤ 5) (h0 : z ≠ 0) (h1 : z ≠ 1) (h2 : z ≠ 2) (h3 : z ≠ 3) (h4 : z ≠ 4) : z = 5 := by omega
theorem qw_step {q q' : Ps} {c : Nat} (hQ : QOk q) (hw : QW q) (h : stp q c = some q') : QW q' := by
  have hw0 := hw
  obtain ⟨w1, w2, w3, w4, w5, w6⟩ := hw
  have a1 := hQ.1
  by_cases e0 : qH q = 0
  · rw [stp_0 e0] at h
    unfold st0 at h
    split at h
    · split at h
      · cases h
        exact qw_same hw0 (by omega) (by omega) (by decide) (by decide) (by decide)
      · cases h
    · split at h
      · cases h
        obtain ⟨u1, u2⟩ := w6 e0
        refine ⟨fun c m _ _ hl => ?_, fun c m _ _ _ => u1 _, fun c _ _ => Or.inl (u1 _), fun z => absurd z (by show ¬ 0 = 5; decide), fun z => absurd z (by show ¬ 0 = 3; decide), fun _ => ⟨u1, u2⟩⟩
        have hl : m < bM (qB q) c := hl
        rw [u2 c] at hl
        exact absurd hl (Nat.not_lt_zero _)
      · cases h
  by_cases e1 : qH q = 1
  · rw [stp_1 e1] at h
    unfold st1 at h
    split at h
    · cases h
      exact qw_same hw0 (by omega) (by omega) (by decide) (by decide) (by decide)
    · split at h
      · cases h
        exact qw_same hw0 (by omega) (by omega) (by decide) (by decide) (by decide)
      · cases h
  by_cases e2 : qH q = 2
  · rw [stp_2 e2] at h
    unfold st2 at h
    split at h
    · next g =>
      cases h
      have hN : qN q < bN (qB q) := hQ.2.2.2.2.2.1 (by omega)
      have h4 := hQ.2.1
      have e1 : qH (stS (3, upT (qB q) (12 + qN q) [], qK q, qN q, 1) 3 (12 + qN q) 0 (c - 48)) = if 0 + bP (qB q) (c - 48) = 0 then 4 else 3 := rfl
      have eT : ∀ j, bT (qB (stS (3, upT (qB q) (12 + qN q) [], qK q, qN q, 1) 3 (12 + qN q) 0 (c - 48))) j = if j = 12 + qN q then (if 12 + qN q = 12 + qN q then [] else bT (qB q) (12 + qN q)) ++ [c - 48] else (if j = 12 + qN q then [] else bT (qB q) j) := fun _ => rfl
      have eT2 : ∀ j, bT (qB (stS (3, upT (qB q) (12 + qN q) [], qK q, qN q, 1) 3 (12 + qN q) 0 (c - 48))) j = if j = 12 + qN q then [c - 48] else bT (qB q) j := fun j => by
        rw [eT, if_pos rfl]
        by_cases e : j = 12 + qN q
        · rw [if_pos e, if_pos e]; rfl
        · rw [if_neg e, if_neg e, if_neg e]
      have hpe : pend (bP (qB q)) 1 [c - 48] = some (0 + bP (qB q) (c - 48)) := rfl
      have hsg : ∀ y ∈ [c - 48], sgOk (qB q) (qN q) y := fun y hy => by
        rw [List.mem_singleton.mp hy]
        left
        omega
      refine ⟨fun c' m hc hm hl hn => ?_, fun c' m hc hm hl => ?_, fun c' hc hn => ?_, fun z => ?_, fun z => ?_, fun z => ?_⟩
      · rw [eT2, if_neg (by omega)]
        exact w1 c' m hc hm hl (fun z => by omega)
      · rw [eT2, if_neg (by omega)]
        exact w2 c' m hc hm hl
      · rw [eT2]
        by_cases e : c' = qN q
        · have hz : 0 + bP (qB q) (c - 48) = 0 := by
            apply Decidable.byContradiction
            intro g
            rw [if_neg g] at e1
            exact hn ⟨e1, e⟩
          rw [hz] at hpe
          obtain ⟨g1, g2⟩ := pend_ok _ _ hpe
          rw [if_pos (by omega), e]
          exact Or.inr ⟨hN, ⟨g1, g2, hsg⟩, c - 48, [], rfl, by omega, fun y hy => absurd hy (by simp)⟩
        · rw [if_neg (by omega)]
          exact w3 c' hc (fun z => by omega)
      · rw [e1] at z
        split at z <;> omega
      · show pend (bP (qB q)) 1 (bT (qB (stS (3, upT (qB q) (12 + qN q) [], qK q, qN q, 1) 3 (12 + qN q) 0 (c - 48))) (12 + qN q)) = some (0 + bP (qB q) (c - 48)) ∧ (∀ y ∈ bT (qB (stS (3, upT (qB q) (12 + qN q) [], qK q, qN q, 1) 3 (12 + qN q) 0 (c - 48))) (12 + qN q), sgOk (qB q) (qN q) y) ∧ ∃ a as, bT (qB (stS (3, upT (qB q) (12 + qN q) [], qK q, qN q, 1) 3 (12 + qN q) 0 (c - 48))) (12 + qN q) = a :: as ∧ a < qN q ∧ ∀ s ∈ as, bP (qB q) s = 0
        rw [eT2, if_pos rfl]
        exact ⟨hpe, hsg, c - 48, [], rfl, by omega, fun y hy => absurd hy (by simp)⟩
      · rw [e1] at z
        split at z <;> omega
    · cases h
  by_cases e3 : qH q = 3
  · rw [stp_3 e3] at h
    unfold st3 at h
    split at h
    · next s hs =>
      split at h
      · next g =>
        cases h
        exact qw_S3 hQ hw0 e3 (sg_lt hs) (by have := hQ.2.2.2.2.2.2.1 (Or.inl e3); omega) g
      · cases h
    · cases h
  by_cases e4 : qH q = 4
  · rw [stp_4 e4] at h
    unfold st4 at h
    split at h
    · split at h
      · cases h
        exact qw_same hw0 (by omega) (by omega) (by decide) (by decide) (by decide)
      · cases h
    · split at h
      · next kd hx =>
        split at h
        · next g =>
          cases h
          have hN : qN q < bN (qB q) := hQ.2.2.2.2.2.1 (by omega)
          have h4 := hQ.2.1
          have upe : ∀ j, j ≠ qN q → upN (bM (qB q)) (qN q) (bM (qB q) (qN q) + 1) j = bM (qB q) j := fun j hj => by unfold upN; rw [if_neg hj]
          have ups : upN (bM (qB q)) (qN q) (bM (qB q) (qN q) + 1) (qN q) = bM (qB q) (qN q) + 1 := by unfold upN; rw [if_pos rfl]
          refine ⟨fun c' m hc hm hl hn => ?_, fun c' m hc hm hl => ?_, fun c' hc hn => ?_, fun z => ?_, fun z => absurd z (by show ¬ 5 = 3; decide), fun z => absurd z (by show ¬ 5 = 0; decide)⟩
          · have hl : m < upN (bM (qB q)) (qN q) (bM (qB q) (qN q) + 1) c' := hl
            have hn : ¬ (5 = 5 ∧ c' = qN q ∧ m + 1 = upN (bM (qB q)) (qN q) (bM (qB q) (qN q) + 1) c') := hn
            show TyOk (qB q) c' (if 3 * c' + m = 3 * qN q + bM (qB q) (qN q) then [] else bT (qB q) (3 * c' + m))
            by_cases e : c' = qN q
            · subst e
              rw [ups] at hl hn
              rw [if_neg (by omega)]
              exact w1 _ m hc hm (by omega) (fun z => by omega)
            · rw [upe c' e] at hl
              rw [if_neg (by omega)]
              exact w1 c' m hc hm hl (fun z => by omega)
          · have hl : ¬ m < upN (bM (qB q)) (qN q) (bM (qB q) (qN q) + 1) c' := hl
            show (if 3 * c' + m = 3 * qN q + bM (qB q) (qN q) then [] else bT (qB q) (3 * c' + m)) = []
            by_cases e : c' = qN q
            · subst e
              rw [ups] at hl
              rw [if_neg (by omega)]
              exact w2 _ m hc hm (by omega)
            · rw [upe c' e] at hl
              rw [if_neg (by omega)]
              exact w2 c' m hc hm hl
          · show (if 12 + c' = 3 * qN q + bM (qB q) (qN q) then [] else bT (qB q) (12 + c')) = [] ∨ AbOk (qB q) c' (if 12 + c' = 3 * qN q + bM (qB q) (qN q) then [] else bT (qB q) (12 + c'))
            rw [if_neg (by omega)]
            exact w3 c' hc (fun z => by omega)
          · have ep : pl5 (5, (bN (qB q), bP (qB q), upN (bM (qB q)) (qN q) (bM (qB q) (qN q) + 1), fun j => if j = 3 * qN q + bM (qB q) (qN q) then [] else bT (qB q) j), upN (qK q) (3 * qN q + bM (qB q) (qN q)) kd, qN q, 1) = 3 * qN q + bM (qB q) (qN q) := by
              show 3 * qN q + (upN (bM (qB q)) (qN q) (bM (qB q) (qN q) + 1) (qN q) - 1) = _
              rw [ups]; rfl
            rw [ep]
            show pend (bP (qB q)) 1 (if 3 * qN q + bM (qB q) (qN q) = 3 * qN q + bM (qB q) (qN q) then [] else bT (qB q) (3 * qN q + bM (qB q) (qN q))) = some 1 ∧ ∀ s ∈ (if 3 * qN q + bM (qB q) (qN q) = 3 * qN q + bM (qB q) (qN q) then [] else bT (qB q) (3 * qN q + bM (qB q) (qN q))), _
            rw [if_pos rfl]
            exact ⟨rfl, fun s hs => absurd hs (by simp)⟩
        · cases h
      · cases h
  · have e5 := q5_of a1 e0 e1 e2 e3 e4
    rw [stp_5 e5] at h
    unfold st5 at h
    split at h
    · next s hs =>
      cases h
      exact qw_S5 hQ hw0 e5 (sg_lt hs) (by have := hQ.2.2.2.2.2.2.1 (Or.inr e5); omega)
    · cases h
theorem fq_ok : ∀ (t : List Nat) (q q' : Ps), QOk q → QW q → fq q t = some q' → QOk q' ∧ QW q'
  | [], q, q', h1, h2, h => by rw [fq] at h; cases h; exact ⟨h1, h2⟩
  | c :: t, q, q', h1, h2, h => by
    rw [fq] at h
    cases hs : stp q c with
    | none => rw [hs] at h; cases h
    | some p =>
      rw [hs] at h
      exact fq_ok t p q' (qok_step h1 hs) (qw_step h1 h2 hs) h
theorem fl_some : ∀ (t : List Nat) (q q' : Ps), fq q t = some q' → fl q t = t.length
  | [], q, q', h => rfl
  | c :: t, q, q', h => by
    rw [fq] at h
    rw [fl]
    cases hs : stp q c with
    | none => rw [hs] at h; cases h
    | some p =>
      rw [hs] at h
      show fl p t + 1 = _
      rw [fl_some t p q' h, List.length_cons]
theorem fl_none : ∀ (t : List Nat) (q : Ps), fq q t = none → fl q t < t.length
  | [], q, h => by rw [fq] at h; cases h
  | c :: t, q, h => by
    rw [fq] at h
    rw [fl]
    cases hs : stp q c with
    | none => show 0 < _; simp
    | some p =>
      rw [hs] at h
      have := fl_none t p h
      show fl p t + 1 < _
      rw [List.length_cons]
      omega
theorem wf_read {q : Ps} (hQ : QOk q) (hw : QW q) (h4 : qH q = 4) (hN : qN q + 1 = bN (qB q)) : WfB (qB q) := by
  obtain ⟨a1, a2, a3, a4, a5, a6, a7, a8, a9, a10, a11, a12⟩ := hQ
  obtain ⟨w1, w2, w3, w4, w5, w6⟩ := hw
  exact ⟨a2, a3, fun k hk => ⟨a4 k hk, a11 k (by omega)⟩, a5, fun c m hc hm => ⟨fun hl => w1 c m hc hm hl (fun z => by omega), fun hl => w2 c m hc hm hl⟩, fun c hc => w3 c hc (fun z => by omega)⟩
/-- the book that the page is, if it is one -/
def rdB (t : List Nat) : Option Ps := match fq q0 t with
  | some q => if qH q = 4 ∧ qN q + 1 = bN (qB q) then some q else none
  | none => none
theorem rdB_ok {t : List Nat} {q : Ps} (h : rdB t = some q) : fq q0 t = some q ∧ QOk q ∧ WfB (qB q) ∧ qH q = 4 ∧ qN q + 1 = bN (qB q) := by
  unfold rdB at h
  split at h
  · next p hp =>
    split at h
    · next g =>
      cases h
      obtain ⟨g1, g2⟩ := fq_ok _ _ _ qok0 qw0 hp
      exact ⟨hp, g1, wf_read g1 g2 g.1 g.2, g⟩
    · cases h
  · cases h
