/-! reading a page as a book, in mathematics -/
abbrev Ps : Type := Nat × Bk × (Nat → Nat) × Nat × Nat
def qH (q : Ps) : Nat := q.1
def qB (q : Ps) : Bk := q.2.1
def qK (q : Ps) : Nat → Nat := q.2.2.1
def qN (q : Ps) : Nat := q.2.2.2.1
def qO (q : Ps) : Nat := q.2.2.2.2
def upT (B : Bk) (p : Nat) (t : List Nat) : Bk := (bN B, bP B, bM B, fun k => if k = p then t else bT B k)
def sg (B : Bk) (b c : Nat) : Option Nat := if c = 120 then (if 0 < bP B b then some 4 else none) else if c = 121 then (if 1 < bP B b then some 5 else none) else if 48 ≤ c ∧ c < 48 + bN B then some (c - 48) else none
def kix (c : Nat) : Option Nat := if c = 114 then some 0 else if c = 97 then some 1 else if c = 102 then some 2 else if c = 104 then some 3 else if c = 118 then some 4 else none
def st0 (q : Ps) (c : Nat) : Option Ps := if c = 59 then (if 0 < bN (qB q) then some (1, qB q, qK q, qN q, qO q) else none) else if 48 ≤ c ∧ c ≤ 50 ∧ bN (qB q) < 4 then some (0, (bN (qB q) + 1, upN (bP (qB q)) (bN (qB q)) (c - 48), bM (qB q), bT (qB q)), qK q, qN q, qO q) else none
def st1 (q : Ps) (c : Nat) : Option Ps := if c = 60 then some (2, qB q, qK q, qN q, qO q) else if c = 45 then some (4, qB q, qK q, qN q, qO q) else none
/-- a sign comes to the type at p -/
def stS (q : Ps) (h p o s : Nat) : Ps := (if o + bP (qB q) s = 0 then 4 else h, upT (qB q) p (bT (qB q) p ++ [s]), qK q, qN q, o + bP (qB q) s)
def st2 (q : Ps) (c : Nat) : Option Ps := if 48 ≤ c ∧ c < 48 + qN q then some (stS (3, upT (qB q) (12 + qN q) [], qK q, qN q, 1) 3 (12 + qN q) 0 (c - 48)) else none
def st3 (q : Ps) (c : Nat) : Option Ps := match sg (qB q) (qN q) c with
  | some s => if bP (qB q) s = 0 then some (stS q 3 (12 + qN q) (qO q - 1) s) else none
  | none => none
def pl5 (q : Ps) : Nat := 3 * qN q + (bM (qB q) (qN q) - 1)
def st4 (q : Ps) (c : Nat) : Option Ps := if c = 44 then (if qN q + 1 < bN (qB q) then some (1, qB q, qK q, qN q + 1, qO q) else none) else match kix c with
  | some k => if bM (qB q) (qN q) < 3 then some (5, (bN (qB q), bP (qB q), upN (bM (qB q)) (qN q) (bM (qB q) (qN q) + 1), fun j => if j = 3 * qN q + bM (qB q) (qN q) then [] else bT (qB q) j), upN (qK q) (3 * qN q + bM (qB q) (qN q)) k, qN q, 1) else none
  | none => none
def st5 (q : Ps) (c : Nat) : Option Ps := match sg (qB q) (qN q) c with
  | some s => some (stS q 5 (pl5 q) (qO q - 1) s)
  | none => none
def stp (q : Ps) (c : Nat) : Option Ps := match qH q with
  | 0 => st0 q c
  | 1 => st1 q c
  | 2 => st2 q c
  | 3 => st3 q c
  | 4 => st4 q c
  | _ => st5 q c
def q0 : Ps := (0, bk0, fun _ => 0, 0, 0)
/-- where the first fault is, and what is read then -/
def fl : Ps → List Nat → Nat
  | _, [] => 0
  | q, c :: t => match stp q c with
    | some q' => fl q' t + 1
    | none => 0
def fq : Ps → List Nat → Option Ps
  | q, [] => some q
  | q, c :: t => match stp q c with
    | some q' => fq q' t
    | none => none
def QOk (q : Ps) : Prop := qH q ≤ 5 ∧ bN (qB q) ≤ 4 ∧ (∀ k, bP (qB q) k ≤ 2) ∧ (∀ k, bN (qB q) ≤ k → bP (qB q) k = 0) ∧ (∀ k, bM (qB q) k ≤ 3) ∧ (qH q ≠ 0 → qN q < bN (qB q)) ∧ (qH q = 3 ∨ qH q = 5 → 0 < qO q) ∧ (qH q = 5 → 0 < bM (qB q) (qN q)) ∧ (∀ i, qK q i < 5) ∧ (qH q = 0 → qN q = 0) ∧ (∀ k, qN q < k → bM (qB q) k = 0) ∧ (qH q < 4 → bM (qB q) (qN q) = 0)
theorem sg_lt {B : Bk} {b c s : Nat} (h : sg B b c = some s) : s < bN B ∨ (s = 4 ∧ 0 < bP B b) ∨ (s = 5 ∧ 1 < bP B b) := by
  unfold sg at h
  split at h
  · split at h
    · cases h; exact Or.inr (Or.inl ⟨rfl, by assumption⟩)
    · cases h
  · split at h
    · split at h
      · cases h; exact Or.inr (Or.inr ⟨rfl, by assumption⟩)
      · cases h
    · split at h
      · cases h; left; omega
      · cases h
theorem kix_lt {c k : Nat} (h : kix c = some k) : k < 5 := by
  unfold kix at h
  split at h
  · cases h; decide
  · split at h
    · cases h; decide
    · split at h
      · cases h; decide
      · split at h
        · cases h; decide
        · split at h
          · cases h; decide
          · cases h
theorem kix_I (c : Nat) : kIx c = match kix c with
  | some k => nI k
  | none => -1 := by
  unfold kIx kix
  split
  · rfl
  · split
    · rfl
    · split
      · rfl
      · split
        · rfl
        · split
          · rfl
          · rfl
theorem qok_S {q : Ps} {h p o s : Nat} (hq : QOk q) (h5 : h = 3 ∨ h = 5) (hn : qH q ≠ 0) (h3 : h = 3 → bM (qB q) (qN q) = 0) (h55 : h = 5 → 0 < bM (qB q) (qN q)) : QOk (stS q h p o s) := by
  obtain ⟨a1, a2, a3, a4, a5, a6, a7, a8, a9, a10, a11, a12⟩ := hq
  unfold stS
  refine ⟨?_, a2, a3, a4, a5, fun _ => a6 hn, ?_, ?_, a9, ?_, a11, ?_⟩
  · show (if o + bP (qB q) s = 0 then 4 else h) ≤ 5
    split
    · omega
    · omega
  · show (if o + bP (qB q) s = 0 then 4 else h) = 3 ∨ (if o + bP (qB q) s = 0 then 4 else h) = 5 → 0 < o + bP (qB q) s
    split
    · omega
    · omega
  · show (if o + bP (qB q) s = 0 then 4 else h) = 5 → 0 < bM (qB q) (qN q)
    split
    · omega
    · exact h55
  · show (if o + bP (qB q) s = 0 then 4 else h) = 0 → qN q = 0
    split
    · omega
    · omega
  · show (if o + bP (qB q) s = 0 then 4 else h) < 4 → bM (qB q) (qN q) = 0
    split
    · omega
    · intro z
      exact h3 (by omega)
theorem qok0 : QOk q0 := ⟨by decide, by decide, fun _ => Nat.zero_le _, fun _ _ => rfl, fun _ => Nat.zero_le _, fun h => absurd rfl h, fun h => absurd h (by decide), fun h => absurd h (by decide), fun _ => (show (0 : Nat) < 5 by decide), fun _ => rfl, fun _ _ => rfl, fun _ => rfl⟩
