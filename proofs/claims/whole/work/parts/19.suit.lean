/-! whether one closed type suits for another one: over lists of signs -/
def CT (B : Bk) (t : List Nat) : Prop := (∀ s ∈ t, s < bN B) ∧ finb (bP B) 1 t = true ∧ skipL (bP B) 1 t = t.length
def ahd (t : List Nat) : Nat := t.headD 0
def arg (P : Nat → Nat) (t : List Nat) (p : Nat) : List Nat := if p = 0 then t.tail.take (skipL P 1 t.tail) else (t.tail.drop (skipL P 1 t.tail)).take (skipL P 1 (t.tail.drop (skipL P 1 t.tail)))
def put (s : Nat) (f g : List Nat) : List Nat := if s = 4 then f else if s = 5 then g else [s]
/-- upwards, while the goal is less -/
def clb (B : Bk) (gl : Nat) : Nat → Nat → List Nat → List Nat → Option (Nat × List Nat × List Nat)
  | 0, c, f, g => some (c, f, g)
  | k + 1, c, f, g => if gl < c then (match bT B (12 + c) with
    | [] => none
    | ab :: as => clb B gl k ab (put (as.getD 0 0) f g) (put (as.getD 1 0) f g)) else some (c, f, g)
def wF (V : Nat → Nat) (s : List Nat → List Nat → Bool) (P : Nat → Nat) (u : List Nat) (p : Nat) (a : List Nat) : Bool :=
  if p < P (ahd u) then (if V (2 * ahd u + p) % 2 = 1 then s a (arg P u p) else true) && (if V (2 * ahd u + p) / 2 % 2 = 1 then s (arg P u p) a else true) else true
def rF (V : Nat → Nat) (s : List Nat → List Nat → Bool) (P : Nat → Nat) (u : List Nat) (o : Option (Nat × List Nat × List Nat)) : Bool := match o with
  | none => false
  | some q => decide (q.1 = ahd u) && wF V s P u 0 q.2.1 && wF V s P u 1 q.2.2
def sF (B : Bk) (V : Nat → Nat) : Nat → List Nat → List Nat → Bool
  | 0, _, _ => false
  | d + 1, t, u => rF V (sF B V d) (bP B) u (clb B (ahd u) 4 (ahd t) (arg (bP B) t 0) (arg (bP B) t 1))
/-- each suits for the other one -/
def alF (P V : Nat → Nat) : Nat → List Nat → List Nat → Bool
  | 0, _, _ => false
  | d + 1, t, u => decide (ahd t = ahd u) && (List.range (P (ahd t))).all (fun p => if V (2 * ahd t + p) = 0 then true else alF P V d (arg P t p) (arg P u p))
theorem clb_le {B : Bk} (hW : WfB B) {gl : Nat} : ∀ (k c : Nat) (f g : List Nat) (q : Nat × List Nat × List Nat), clb B gl k c f g = some q → c < 4 → q.1 ≤ c
  | 0, c, f, g, q, h, _ => by rw [clb] at h; cases h; exact Nat.le_refl _
  | k + 1, c, f, g, q, h, hc => by
    rw [clb] at h
    by_cases hg : gl < c
    · rw [if_pos hg] at h
      rcases hW.2.2.2.2.2 c hc with e | e
      · rw [e] at h; cases h
      · obtain ⟨-, -, a, as, e, ha, -⟩ := e
        rw [e] at h
        have := clb_le hW k a _ _ q h (by omega)
        omega
    · rw [if_neg hg] at h
      cases h
      exact Nat.le_refl _
theorem clb_same {B : Bk} {c : Nat} {k : Nat} {f g : List Nat} : clb B c k c f g = some (c, f, g) := by
  cases k with
  | zero => rfl
  | succ k => rw [clb, if_neg (Nat.lt_irrefl _)]
theorem CT.ne {B : Bk} {t : List Nat} (h : CT B t) : ∃ c r, t = c :: r ∧ ahd t = c ∧ c < bN B := by
  cases t with
  | nil => have := h.2.1; simp [finb] at this
  | cons c r => exact ⟨c, r, rfl, rfl, h.1 c List.mem_cons_self⟩
theorem bits4 : ∀ v, v < 4 → (v ≠ 0 ↔ (v % 2 = 1 ∨ v / 2 % 2 = 1)) := by decide +kernel
theorem arg_pos {B : Bk} (hW : WfB B) {t : List Nat} (h : CT B t) {p : Nat} (hp : p < bP B (ahd t)) : CT B (arg (bP B) t p) ∧ (arg (bP B) t p).length < t.length ∧ ∀ (f : Nat → Int32) (a : Nat), At f a t → At f (a + 1 + (if p = 0 then 0 else skipL (bP B) 1 t.tail)) (arg (bP B) t p) ∧ 1 + (if p = 0 then 0 else skipL (bP B) 1 t.tail) + (arg (bP B) t p).length ≤ t.length := by
  obtain ⟨c, r, rfl, hc, hn⟩ := h.ne
  rw [hc] at hp
  obtain ⟨h1, h2, h3⟩ := h
  rw [finb, Nat.zero_add] at h2
  have hP := hW.2.1 c
  have hsub : ∀ (k n : Nat), ∀ s ∈ (r.drop k).take n, s < bN B := fun k n s hs => h1 s (List.mem_cons_of_mem _ (List.mem_of_mem_drop (List.mem_of_mem_take hs)))
  have hf1 : finb (bP B) 1 r = true := by
    have : finb (bP B) (1 + (bP B c - 1)) r = true := by rw [show 1 + (bP B c - 1) = bP B c by omega]; exact h2
    exact (finb_add r 1 _ this).1
  by_cases h0 : p = 0
  · subst h0
    simp only [arg, if_true, List.tail_cons, Nat.add_zero]
    have ht := finb_take r 1 hf1
    have hl := skipL_le (P := bP B) r 1
    refine ⟨⟨hsub 0 _, ht.1, ht.2⟩, by simp; omega, fun f a hA => ⟨(At.cons_iff.mp hA).2.take _, by simp; omega⟩⟩
  · have h2c : bP B c = 2 := by omega
    rw [h2c] at h2
    obtain ⟨g1, g2, g3⟩ := finb_add r 1 1 h2
    simp only [arg, if_neg h0, List.tail_cons]
    have ht := finb_take _ 1 g2
    have hl := skipL_le (P := bP B) r 1
    have hl2 := skipL_le (P := bP B) (r.drop (skipL (bP B) 1 r)) 1
    refine ⟨⟨hsub _ _, ht.1, ht.2⟩, ?_, fun f a hA => ⟨((At.cons_iff.mp hA).2.drop hl).take _, ?_⟩⟩
    · simp at hl2 ⊢; omega
    · simp at hl2 ⊢; omega
theorem wF_iff {V : Nat → Nat} {s : List Nat → List Nat → Bool} {P : Nat → Nat} {u : List Nat} {p : Nat} {a : List Nat} : wF V s P u p a = true ↔ (p < P (ahd u) → (V (2 * ahd u + p) % 2 = 1 → s a (arg P u p) = true) ∧ (V (2 * ahd u + p) / 2 % 2 = 1 → s (arg P u p) a = true)) := by
  unfold wF
  by_cases hp : p < P (ahd u)
  · rw [if_pos hp, Bool.and_eq_true]
    by_cases h1 : V (2 * ahd u + p) % 2 = 1 <;> by_cases h2 : V (2 * ahd u + p) / 2 % 2 = 1 <;> simp [h1, h2, hp]
  · simp [hp]
theorem rF_iff {V : Nat → Nat} {s : List Nat → List Nat → Bool} {P : Nat → Nat} {u : List Nat} {o : Option (Nat × List Nat × List Nat)} : rF V s P u o = true ↔ ∃ q, o = some q ∧ q.1 = ahd u ∧ wF V s P u 0 q.2.1 = true ∧ wF V s P u 1 q.2.2 = true := by
  cases o with
  | none => simp [rF]
  | some q => simp [rF, Bool.and_eq_true, and_assoc]
/-- 'alike' is 'each for the other' -/
theorem alF_eq {B : Bk} {V : Nat → Nat} (hW : WfB B) (hV : ∀ j, V j < 4) : ∀ (d : Nat) (t u : List Nat), CT B t → CT B u → (alF (bP B) V d t u = true ↔ (sF B V d t u = true ∧ sF B V d u t = true))
  | 0, t, u, _, _ => by simp [alF, sF]
  | d + 1, t, u, ht, hu => by
    obtain ⟨c, r, -, hc, hcn⟩ := ht.ne
    obtain ⟨c', r', -, hc', hcn'⟩ := hu.ne
    have h4 := hW.1
    rw [alF, sF, sF, rF_iff, rF_iff, Bool.and_eq_true, decide_eq_true_eq, List.all_eq_true]
    constructor
    · rintro ⟨he, hall⟩
      have key : ∀ p, p < bP B (ahd t) → V (2 * ahd t + p) ≠ 0 → sF B V d (arg (bP B) t p) (arg (bP B) u p) = true ∧ sF B V d (arg (bP B) u p) (arg (bP B) t p) = true := by
        intro p hp hv
        have := hall p (List.mem_range.mpr hp)
        rw [if_neg hv] at this
        exact (alF_eq hW hV d _ _ (arg_pos hW ht hp).1 (arg_pos hW hu (by rw [← he]; exact hp)).1).mp this
      have h2 : ∀ p, wF V (sF B V d) (bP B) u p (arg (bP B) t p) = true := fun p => wF_iff.mpr (fun hp => by
        rw [← he] at hp ⊢
        exact ⟨fun hb => (key p hp ((bits4 _ (hV _)).mpr (Or.inl hb))).1, fun hb => (key p hp ((bits4 _ (hV _)).mpr (Or.inr hb))).2⟩)
      have h3 : ∀ p, wF V (sF B V d) (bP B) t p (arg (bP B) u p) = true := fun p => wF_iff.mpr (fun hp => 
        ⟨fun hb => (key p hp ((bits4 _ (hV _)).mpr (Or.inl hb))).2, fun hb => (key p hp ((bits4 _ (hV _)).mpr (Or.inr hb))).1⟩)
      refine ⟨⟨(ahd t, arg (bP B) t 0, arg (bP B) t 1), ?_, he, h2 0, h2 1⟩, ⟨(ahd u, arg (bP B) u 0, arg (bP B) u 1), ?_, he.symm, h3 0, h3 1⟩⟩
      · rw [he]; exact clb_same
      · rw [he]; exact clb_same
    · rintro ⟨⟨q, e1, e2, e3, e4⟩, ⟨q', f1, f2, f3, f4⟩⟩
      have g1 := clb_le hW _ _ _ _ _ e1 (by omega)
      have g2 := clb_le hW _ _ _ _ _ f1 (by omega)
      have he : ahd t = ahd u := by omega
      rw [he, clb_same] at e1
      rw [← he, clb_same] at f1
      cases e1
      cases f1
      refine ⟨he, fun p hp => ?_⟩
      have hp := List.mem_range.mp hp
      have hp2 := hW.2.1 (ahd t)
      by_cases hv : V (2 * ahd t + p) = 0
      · rw [if_pos hv]
      · rw [if_neg hv]
        have w1 : wF V (sF B V d) (bP B) u p (arg (bP B) t p) = true := by
          rcases (show p = 0 ∨ p = 1 by omega) with rfl | rfl
          · exact e3
          · exact e4
        have w2 : wF V (sF B V d) (bP B) t p (arg (bP B) u p) = true := by
          rcases (show p = 0 ∨ p = 1 by omega) with rfl | rfl
          · exact f3
          · exact f4
        have w1 := wF_iff.mp w1 (by rw [← he]; exact hp)
        have w2 := wF_iff.mp w2 hp
        rw [← he] at w1
        refine (alF_eq hW hV d _ _ (arg_pos hW ht hp).1 (arg_pos hW hu (by rw [← he]; exact hp)).1).mpr ?_
        rcases (bits4 _ (hV _)).mp hv with hb | hb
        · exact ⟨w1.1 hb, w2.1 hb⟩
        · exact ⟨w2.2 hb, w1.2 hb⟩
