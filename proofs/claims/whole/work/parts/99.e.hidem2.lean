/-! hide: candidates of the program and of the reference -/
def usf (m : Mt) (i : Nat) : Prop := ¬ ((mTl m i).1 = 0 ∧ (mTl m i).2 = 0)
noncomputable def mtN (m : Mt) : Nat → Nat
  | 0 => 0
  | i + 1 => if (mTl m i).1 = 0 ∧ (mTl m i).2 = 0 then mtN m i else mtN m i + 2 ^ i
theorem or_shl : ∀ i, i < 12 → ∀ a, a < 2 ^ i → nI a ||| ((1 : Int32) <<< (nI i &&& 31)) = nI (a + 2 ^ i) := by decide +kernel
theorem mtN_lt (m : Mt) : ∀ i, mtN m i < 2 ^ i
  | 0 => by simp [mtN]
  | i + 1 => by
    have := mtN_lt m i
    rw [mtN, Nat.pow_succ]
    split <;> omega
theorem mtN_eq (m : Mt) : ∀ i, i ≤ 12 → mtA m i = nI (mtN m i)
  | 0, _ => rfl
  | i + 1, h => by
    rw [mtA, mtN, mtN_eq m i (by omega)]
    split
    · rfl
    · exact or_shl i (by omega) _ (mtN_lt m i)
theorem mtN_bit (m : Mt) : ∀ (n i : Nat), i < n → (mtN m n / 2 ^ i % 2 = 1 ↔ usf m i)
  | 0, i, h => absurd h (Nat.not_lt_zero _)
  | n + 1, i, h => by
    have hl := mtN_lt m n
    rw [mtN]
    by_cases e : i = n
    · subst e
      by_cases hz : (mTl m i).1 = 0 ∧ (mTl m i).2 = 0
      · rw [if_pos hz, Nat.div_eq_of_lt hl]
        exact ⟨fun q => absurd q (by decide), fun q => absurd hz q⟩
      · rw [if_neg hz, Nat.add_div_right _ (Nat.two_pow_pos i), Nat.div_eq_of_lt hl]
        exact ⟨fun _ => hz, fun _ => by decide⟩
    · have ih := mtN_bit m n i (by omega)
      by_cases hz : (mTl m n).1 = 0 ∧ (mTl m n).2 = 0
      · rw [if_pos hz]; exact ih
      · rw [if_neg hz, ← ih]
        have e2 : 2 ^ n = 2 ^ i * (2 * 2 ^ (n - i - 1)) := by
          rw [← Nat.mul_assoc, ← Nat.pow_succ, ← Nat.pow_add]
          congr 1
          omega
        rw [e2, Nat.add_mul_div_left _ _ (Nat.two_pow_pos i), Nat.add_mul_mod_self_left]
theorem msk_iff {h U : Nat} (hh : h < 4096) (hU : U < 4096) : nI h &&& (nI U ^^^ (-1)) = 0 ↔ ∀ i, i < 12 → h / 2 ^ i % 2 = 1 → U / 2 ^ i % 2 = 1 := by
  have eb : ∀ (n i : Nat), i < 32 → (nI n).toBitVec.getLsbD i = n.testBit i := fun n i hi => by
    show (BitVec.ofNat 32 n).getLsbD i = _
    rw [BitVec.getLsbD_ofNat]
    simp [hi]
  have hm1 : ∀ i, i < 32 → ((-1 : Int32)).toBitVec.getLsbD i = true := by decide
  have h0 : ∀ i, ((0 : Int32)).toBitVec.getLsbD i = false := fun i => by
    show (BitVec.ofNat 32 0).getLsbD i = false
    simp
  constructor
  · intro e i hi hb
    have e2 := congrArg (fun x : Int32 => x.toBitVec.getLsbD i) e
    simp only [Int32.toBitVec_and, Int32.toBitVec_xor, BitVec.getLsbD_and, BitVec.getLsbD_xor, eb _ i (by omega), hm1 i (by omega), h0] at e2
    rw [(tb h i).mpr hb] at e2
    rw [← tb]
    cases hu : U.testBit i with
    | true => rfl
    | false => rw [hu] at e2; exact absurd e2 (by decide)
  · intro hall
    apply Int32.toBitVec_inj.mp
    apply BitVec.eq_of_getLsbD_eq
    intro i hi
    simp only [Int32.toBitVec_and, Int32.toBitVec_xor, BitVec.getLsbD_and, BitVec.getLsbD_xor, eb _ i hi, hm1 i hi, h0]
    by_cases h12 : i < 12
    · cases hb : h.testBit i with
      | false => rfl
      | true =>
        have := (tb U i).mpr (hall i h12 ((tb h i).mp hb))
        rw [this]
        rfl
    · have : h.testBit i = false := by
        rw [Nat.testBit_eq_decide_div_mod_eq]
        have : h / 2 ^ i = 0 := Nat.div_eq_of_lt (Nat.lt_of_lt_of_le hh (by
          have : (4096 : Nat) = 2 ^ 12 := by decide
          rw [this]
          exact Nat.pow_le_pow_right (by decide) (by omega)))
        rw [this]
        decide
      rw [this]
      rfl
def frH (m : Mt) (q : Nat) (t : Int32) (h : Nat) : Prop := nI (wy (mB m) (kdh (mK m) h) q) &&& t = 0
def canH (m : Mt) (h : Nat) : Prop := ∀ i, i < 12 → h / 2 ^ i % 2 = 1 → i % 3 < bM (mB m) (i / 3) ∧ mK m i ≠ 3
theorem usf_mem {m : Mt} (hm : MOk m) {i : Nat} (hi : i < 12) (h : usf m i) : i % 3 < bM (mB m) (i / 3) ∧ mK m i ≠ 3 := by
  have hW := hm.2.2.1
  constructor
  · apply Classical.byContradiction
    intro hn
    have := (hW.2.2.2.2.1 (i / 3) (i % 3) (by omega) (by omega)).2 hn
    rw [show 3 * (i / 3) + i % 3 = i by omega] at this
    apply h
    unfold mTl
    rw [this]
    exact ⟨rfl, rfl⟩
  · intro e
    apply h
    unfold mTl
    rw [e, show kwn 3 = 0 from rfl, tl_0 _ _ (by simp)]
    exact ⟨rfl, rfl⟩
theorem kdh_or (K : Nat → Nat) (h p : Nat) : kdh K h p = K p ∨ kdh K h p = 3 := by
  unfold kdh
  split
  · exact Or.inr rfl
  · exact Or.inl rfl
/-- what the reference finds, the program finds -/
theorem hide_eq {m : Mt} (hm : MOk m) {c p : Nat} {t r : Int32} (h : LexM (fun s => canH m s ∧ frH m (2 * c + p) t s) r) : r = ftH m c p t (mtA m 12) 4096 0 (-1) 4 := by
  have hP : ∀ h, h < 4096 → (((∀ i, i < 12 → h / 2 ^ i % 2 = 1 → usf m i) ∧ frH m (2 * c + p) t h) ↔ nI h &&& (mtA m 12 ^^^ (-1)) = 0 ∧ nI (wy (mB m) (kdh (mK m) h) (2 * c + p)) &&& t = 0) := by
    intro h hh
    rw [mtN_eq m 12 (Nat.le_refl _), msk_iff hh (by have := mtN_lt m 12; omega)]
    constructor
    · rintro ⟨h1, h2⟩
      exact ⟨fun i hi hb => (mtN_bit m 12 i hi).mpr (h1 i hi hb), h2⟩
    · rintro ⟨h1, h2⟩
      exact ⟨fun i hi hb => (mtN_bit m 12 i hi).mp (h1 i hi hb), h2⟩
  have hprog := ft_lex (m := m) (c := c) (p := p) (t := t) (M := mtA m 12) hP 4096 0 (-1) 4 (by omega) (Or.inl ⟨rfl, rfl, fun s hs => absurd hs (Nat.not_lt_zero _)⟩)
  refine lex_un (lex_sub (P := fun h => (∀ i, i < 12 → h / 2 ^ i % 2 = 1 → usf m i) ∧ frH m (2 * c + p) t h) (fun s hs hp => ⟨fun i hi hb => usf_mem hm hi (hp.1 i hi hb), hp.2⟩) (fun s hs hq hnp => ?_) h) hprog
  have hex : ∃ i, i < 12 ∧ s / 2 ^ i % 2 = 1 ∧ ¬ usf m i := by
    apply Classical.byContradiction
    intro hn
    apply hnp
    refine ⟨fun i hi hb => ?_, hq.2⟩
    apply Classical.byContradiction
    intro hu
    exact hn ⟨i, hi, hb, hu⟩
  obtain ⟨i, hi, hb, hu⟩ := hex
  have hz : (mTl m i).1 = 0 ∧ (mTl m i).2 = 0 := Classical.not_not.mp hu
  have hx : ∀ j, ((s ^^^ 2 ^ i) / 2 ^ j % 2 = 1) ↔ (j ≠ i ∧ s / 2 ^ j % 2 = 1) := fun j => xb hb
  have hlt : s ^^^ 2 ^ i < 4096 := by
    have h1 : s < 2 ^ 12 := hs
    have h2 : 2 ^ i < 2 ^ 12 := Nat.pow_lt_pow_right (by decide) hi
    exact Nat.xor_lt_two_pow h1 h2
  refine ⟨s ^^^ 2 ^ i, hlt, ⟨fun j hj hbj => hq.1 j hj ((hx j).mp hbj).2, ?_⟩, ?_⟩
  · have hw : wy (mB m) (kdh (mK m) (s ^^^ 2 ^ i)) = wy (mB m) (kdh (mK m) s) := by
      refine wy_drop (K0 := mK m) (e := i) (Prod.ext hz.1 hz.2) (kdh_or _ _) (kdh_or _ _) (fun q hq => ?_)
      unfold kdh
      by_cases g : s / 2 ^ q % 2 = 1
      · rw [if_pos g, if_pos ((hx q).mpr ⟨hq, g⟩)]
      · rw [if_neg g, if_neg (fun z => g ((hx q).mp z).2)]
    show nI (wy (mB m) (kdh (mK m) (s ^^^ 2 ^ i)) (2 * c + p)) &&& t = 0
    rw [hw]
    exact hq.2
  · have := on_drop hb hx 12
    rw [if_pos hi] at this
    omega
