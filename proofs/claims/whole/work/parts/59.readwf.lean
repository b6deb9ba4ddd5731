/-! a page that is read whole is a book in form -/
def pend (P : Nat → Nat) : Nat → List Nat → Option Nat
  | o, [] => some o
  | 0, _ :: _ => none
  | o + 1, s :: t => pend P (o + P s) t
theorem pend_push {P : Nat → Nat} {s o' : Nat} : ∀ (t : List Nat) (o : Nat), pend P o t = some (o' + 1) → pend P o (t ++ [s]) = some (o' + P s)
  | [], o, h => by
    rw [pend] at h
    cases h
    rfl
  | _ :: _, 0, h => by rw [pend] at h; cases h
  | a :: t, o + 1, h => by
    rw [pend] at h
    rw [List.cons_append, pend]
    exact pend_push t _ h
theorem pend_ok {P : Nat → Nat} : ∀ (t : List Nat) (o : Nat), pend P o t = some 0 → finb P o t = true ∧ skipL P o t = t.length
  | [], o, h => by
    rw [pend] at h
    cases h
    simp [finb, skipL]
  | _ :: _, 0, h => by rw [pend] at h; cases h
  | a :: t, o + 1, h => by
    rw [pend] at h
    obtain ⟨g1, g2⟩ := pend_ok t _ h
    rw [finb, skipL, g1, g2, List.length_cons]
    exact ⟨rfl, by omega⟩
def QW (q : Ps) : Prop :=
  (∀ c m, c < 4 → m < 3 → m < bM (qB q) c → ¬ (qH q = 5 ∧ c = qN q ∧ m + 1 = bM (qB q) c) → TyOk (qB q) c (bT (qB q) (3 * c + m))) ∧
  (∀ c m, c < 4 → m < 3 → ¬ m < bM (qB q) c → bT (qB q) (3 * c + m) = []) ∧
  (∀ c, c < 4 → ¬ (qH q = 3 ∧ c = qN q) → bT (qB q) (12 + c) = [] ∨ AbOk (qB q) c (bT (qB q) (12 + c))) ∧
  (qH q = 5 → pend (bP (qB q)) 1 (bT (qB q) (pl5 q)) = some (qO q) ∧ ∀ s ∈ bT (qB q) (pl5 q), sgOk (qB q) (qN q) s) ∧
  (qH q = 3 → pend (bP (qB q)) 1 (bT (qB q) (12 + qN q)) = some (qO q) ∧ (∀ s ∈ bT (qB q) (12 + qN q), sgOk (qB q) (qN q) s) ∧ ∃ a as, bT (qB q) (12 + qN q) = a :: as ∧ a < qN q ∧ ∀ s ∈ as, bP (qB q) s = 0) ∧
  (qH q = 0 → (∀ p, bT (qB q) p = []) ∧ ∀ c, bM (qB q) c = 0)
theorem qw0 : QW q0 := ⟨fun c m _ _ h => absurd h (Nat.not_lt_zero _), fun _ _ _ _ _ => rfl, fun _ _ _ => Or.inl rfl, fun h => absurd h (by decide), fun h => absurd h (by decide), fun _ => ⟨fun _ => rfl, fun _ => rfl⟩⟩
/-- the same book in a phase without an open type -/
theorem qw_same {q : Ps} {h b o : Nat} (hw : QW q) (h1 : qH q ≠ 3) (h2 : qH q ≠ 5) (h3 : h ≠ 3) (h4 : h ≠ 5) (h5 : h ≠ 0) : QW (h, qB q, qK q, b, o) := by
  obtain ⟨w1, w2, w3, w4, w5, w6⟩ := hw
  exact ⟨fun c m hc hm hl _ => w1 c m hc hm hl (fun z => h2 z.1), w2, fun c hc _ => w3 c hc (fun z => h1 z.1), fun z => absurd z h4, fun z => absurd z h3, fun z => absurd z h5⟩
theorem bT_up {B : Bk} {p j : Nat} {t : List Nat} : bT (upT B p t) j = if j = p then t else bT B j := rfl
theorem sgOk_up {B : Bk} {p c s : Nat} {t : List Nat} : sgOk (upT B p t) c s ↔ sgOk B c s := Iff.rfl
theorem TyOk_up {B : Bk} {p c : Nat} {t u : List Nat} : TyOk (upT B p t) c u ↔ TyOk B c u := Iff.rfl
theorem AbOk_up {B : Bk} {p c : Nat} {t u : List Nat} : AbOk (upT B p t) c u ↔ AbOk B c u := Iff.rfl
/-- a sign of what is above -/
theorem qw_S3 {q : Ps} {o s : Nat} (hQ : QOk q) (hw : QW q) (h3 : qH q = 3) (hs : sgOk (qB q) (qN q) s) (hO : qO q = o + 1) (hp : bP (qB q) s = 0) : QW (stS q 3 (12 + qN q) o s) := by
  obtain ⟨w1, w2, w3, w4, w5, w6⟩ := hw
  obtain ⟨u1, u2, a, as, u3, u4, u5⟩ := w5 h3
  have hN : qN q < bN (qB q) := hQ.2.2.2.2.2.1 (by omega)
  rw [hO] at u1
  have hpe := pend_push (s := s) _ _ u1
  have hsg : ∀ y ∈ bT (qB q) (12 + qN q) ++ [s], sgOk (qB q) (qN q) y := fun y hy => by
    rcases List.mem_append.mp hy with g | g
    · exact u2 y g
    · rw [List.mem_singleton.mp g]; exact hs
  have hco : bT (qB q) (12 + qN q) ++ [s] = a :: (as ++ [s]) := by rw [u3]; rfl
  have has : ∀ y ∈ as ++ [s], bP (qB q) y = 0 := fun y hy => by
    rcases List.mem_append.mp hy with g | g
    · exact u5 y g
    · rw [List.mem_singleton.mp g]; exact hp
  have e1 : qH (stS q 3 (12 + qN q) o s) = if o + bP (qB q) s = 0 then 4 else 3 := rfl
  have eT : ∀ j, bT (qB (stS q 3 (12 + qN q) o s)) j = if j = 12 + qN q then bT (qB q) (12 + qN q) ++ [s] else bT (qB q) j := fun _ => rfl
  refine ⟨fun c m hc hm hl _ => ?_, fun c m hc hm hl => ?_, fun c hc hn => ?_, fun z => ?_, fun z => ?_, fun z => ?_⟩
  · rw [eT, if_neg (by omega)]
    exact w1 c m hc hm hl (fun z => by omega)
  · rw [eT, if_neg (by omega)]
    exact w2 c m hc hm hl
  · rw [eT]
    by_cases e : c = qN q
    · have hz : o + bP (qB q) s = 0 := by
        apply Decidable.byContradiction
        intro g
        rw [if_neg g] at e1
        exact hn ⟨e1, e⟩
      rw [hz] at hpe
      obtain ⟨g1, g2⟩ := pend_ok _ _ hpe
      rw [if_pos (by omega), e]
      exact Or.inr ⟨hN, ⟨g1, g2, hsg⟩, a, as ++ [s], hco, u4, has⟩
    · rw [if_neg (by omega)]
      exact w3 c hc (fun z => e z.2)
  · rw [e1] at z
    split at z <;> omega
  · show pend (bP (qB q)) 1 (bT (qB (stS q 3 (12 + qN q) o s)) (12 + qN q)) = some (o + bP (qB q) s) ∧ _
    show _ ∧ (∀ y ∈ bT (qB (stS q 3 (12 + qN q) o s)) (12 + qN q), sgOk (qB q) (qN q) y) ∧ ∃ a as, bT (qB (stS q 3 (12 + qN q) o s)) (12 + qN q) = a :: as ∧ a < qN q ∧ ∀ s ∈ as, bP (qB q) s = 0
    rw [eT, if_pos rfl]
    exact ⟨hpe, hsg, a, as ++ [s], hco, u4, has⟩
  · rw [e1] at z
    split at z <;> omega
/-- a sign of a member's type -/
theorem qw_S5 {q : Ps} {o s : Nat} (hQ : QOk q) (hw : QW q) (h5 : qH q = 5) (hs : sgOk (qB q) (qN q) s) (hO : qO q = o + 1) : QW (stS q 5 (pl5 q) o s) := by
  obtain ⟨w1, w2, w3, w4, w5, w6⟩ := hw
  obtain ⟨u1, u2⟩ := w4 h5
  have hN : qN q < bN (qB q) := hQ.2.2.2.2.2.1 (by omega)
  have h4 := hQ.2.1
  have hM0 : 0 < bM (qB q) (qN q) := hQ.2.2.2.2.2.2.2.1 h5
  have hM3 := hQ.2.2.2.2.1 (qN q)
  have epl : pl5 q = 3 * qN q + (bM (qB q) (qN q) - 1) := rfl
  rw [hO] at u1
  have hpe := pend_push (s := s) _ _ u1
  have hsg : ∀ y ∈ bT (qB q) (pl5 q) ++ [s], sgOk (qB q) (qN q) y := fun y hy => by
    rcases List.mem_append.mp hy with g | g
    · exact u2 y g
    · rw [List.mem_singleton.mp g]; exact hs
  have e1 : qH (stS q 5 (pl5 q) o s) = if o + bP (qB q) s = 0 then 4 else 5 := rfl
  have eT : ∀ j, bT (qB (stS q 5 (pl5 q) o s)) j = if j = pl5 q then bT (qB q) (pl5 q) ++ [s] else bT (qB q) j := fun _ => rfl
  refine ⟨fun c m hc hm hl hn => ?_, fun c m hc hm hl => ?_, fun c hc hn => ?_, fun z => ?_, fun z => ?_, fun z => ?_⟩
  · have hl : m < bM (qB q) c := hl
    rw [eT]
    by_cases e : c = qN q ∧ m + 1 = bM (qB q) c
    · have hz : o + bP (qB q) s = 0 := by
        apply Decidable.byContradiction
        intro g
        rw [if_neg g] at e1
        exact hn ⟨e1, e⟩
      rw [hz] at hpe
      obtain ⟨g1, g2⟩ := pend_ok _ _ hpe
      obtain ⟨ea, eb⟩ := e
      subst ea
      rw [if_pos (by omega)]
      exact ⟨g1, g2, hsg⟩
    · have ne : 3 * c + m ≠ pl5 q := fun z => e (by
        have : c = qN q := by omega
        subst this
        exact ⟨rfl, by omega⟩)
      rw [if_neg ne]
      exact w1 c m hc hm hl (fun z => e z.2)
  · have hl : ¬ m < bM (qB q) c := hl
    have ne : 3 * c + m ≠ pl5 q := fun z => by
      have : c = qN q := by omega
      subst this
      omega
    rw [eT, if_neg ne]
    exact w2 c m hc hm hl
  · rw [eT, if_neg (by omega)]
    exact w3 c hc (fun z => by omega)
  · show pend (bP (qB q)) 1 (bT (qB (stS q 5 (pl5 q) o s)) (pl5 q)) = some (o + bP (qB q) s) ∧ ∀ y ∈ bT (qB (stS q 5 (pl5 q) o s)) (pl5 q), sgOk (qB q) (qN q) y
    rw [eT, if_pos rfl]
    exact ⟨hpe, hsg⟩
  · rw [e1] at z
    split at z <;> omega
  · rw [e1] at z
    split at z <;> omega
