/-! hide: a member that adds nothing is never needed -/
theorem sb_as {a b : Nat} (h1 : sb a b) (h2 : sb b a) : a = b := by
  unfold sb at h1 h2
  rw [← h2, Nat.or_comm, h1]
theorem sb_z {a : Nat} (h : sb a 0) : a = 0 := by
  unfold sb at h
  rw [Nat.or_zero] at h
  exact h
theorem itW_le {B : Bk} {kd kd' W : Nat → Nat} (hW4 : ∀ j, W j < 4) (hf : Fw B kd' W = W) (hk : ∀ p, sb (kwn (kd p)) (kwn (kd' p))) : ∀ k j, sb (itW (Fw B kd) k j) (W j)
  | 0, j => sb_0 _
  | k + 1, j => by
    have := Fw_mono (B := B) (itW_lt (B := B) (kd := kd) k) hW4 (itW_le hW4 hf hk k) hk j
    rw [hf] at this
    exact this
theorem wy_le {B : Bk} {kd kd' W : Nat → Nat} (hW4 : ∀ j, W j < 4) (hf : Fw B kd' W = W) (hk : ∀ p, sb (kwn (kd p)) (kwn (kd' p))) (j : Nat) : sb (wy B kd j) (W j) := itW_le hW4 hf hk _ j
theorem tcm_eq {B : Bk} {V kd kd' : Nat → Nat} {c : Nat} (h : ∀ p, tl (bP B) V (bT B p) [kwn (kd p)] = tl (bP B) V (bT B p) [kwn (kd' p)]) : ∀ m, tcm B V kd c m = tcm B V kd' c m
  | 0 => rfl
  | m + 1 => by rw [tcm, tcm, tcm_eq h m, h]
theorem Fw_eq {B : Bk} {V kd kd' : Nat → Nat} (h : ∀ p, tl (bP B) V (bT B p) [kwn (kd p)] = tl (bP B) V (bT B p) [kwn (kd' p)]) : Fw B kd V = Fw B kd' V := by
  funext j
  unfold Fw tc
  rw [tcm_eq h]
theorem wy_drop {B : Bk} {K0 kd kd' : Nat → Nat} {e : Nat} (h0 : tl (bP B) (wy B K0) (bT B e) [kwn (K0 e)] = (0, 0)) (hk : ∀ p, kd p = K0 p ∨ kd p = 3) (hk' : ∀ p, kd' p = K0 p ∨ kd' p = 3) (hd : ∀ p, p ≠ e → kd' p = kd p) : wy B kd = wy B kd' := by
  have sbk : ∀ kk : Nat → Nat, (∀ p, kk p = K0 p ∨ kk p = 3) → ∀ p, sb (kwn (kk p)) (kwn (K0 p)) := fun kk h p => by
    rcases h p with g | g
    · rw [g]; exact sb_rf _
    · rw [g]; exact sb_0 _
  have z : ∀ (kk V : Nat → Nat), (∀ p, kk p = K0 p ∨ kk p = 3) → (∀ j, V j < 4) → (∀ j, sb (V j) (wy B K0 j)) → tl (bP B) V (bT B e) [kwn (kk e)] = (0, 0) := by
    intro kk V h hV4 hV
    have := tl_mono (P := bP B) hV4 (wy_lt B K0) hV (bT B e) [kwn (kk e)] [kwn (K0 e)] (by simpa using kwn_lt _) (by simpa using kwn_lt _) ⟨sbk kk h e, trivial⟩
    rw [h0] at this
    have a := sb_z this.1
    have b := sb_z this.2
    exact Prod.ext a b
  have fe : ∀ V : Nat → Nat, (∀ j, V j < 4) → (∀ j, sb (V j) (wy B K0 j)) → Fw B kd V = Fw B kd' V := by
    intro V hV4 hV
    refine Fw_eq (fun p => ?_)
    by_cases g : p = e
    · rw [g, z kd V hk hV4 hV, z kd' V hk' hV4 hV]
    · rw [hd p g]
  have l1 : ∀ j, sb (wy B kd j) (wy B K0 j) := fun j => wy_le (wy_lt B K0) (wy_fix B K0) (sbk kd hk) j
  have l2 : ∀ j, sb (wy B kd' j) (wy B K0 j) := fun j => wy_le (wy_lt B K0) (wy_fix B K0) (sbk kd' hk') j
  have f1 : Fw B kd' (wy B kd) = wy B kd := by rw [← fe _ (wy_lt B kd) l1]; exact wy_fix B kd
  have f2 : Fw B kd (wy B kd') = wy B kd' := by rw [fe _ (wy_lt B kd') l2]; exact wy_fix B kd'
  funext j
  exact sb_as (wy_le (wy_lt B kd') f2 (fun _ => sb_rf _) j) (wy_le (wy_lt B kd) f1 (fun _ => sb_rf _) j)
/-! bits -/
theorem tb (h i : Nat) : h.testBit i = true ↔ h / 2 ^ i % 2 = 1 := by rw [Nat.testBit_eq_decide_div_mod_eq]; simp
theorem xb {h i j : Nat} (hi : h / 2 ^ i % 2 = 1) : ((h ^^^ 2 ^ i) / 2 ^ j % 2 = 1) ↔ (j ≠ i ∧ h / 2 ^ j % 2 = 1) := by
  rw [← tb, ← tb, Nat.testBit_xor, Nat.testBit_two_pow]
  have hb := (tb h i).mpr hi
  by_cases e : i = j
  · subst e
    rw [hb]
    simp
  · simp [e, Ne.symm e]
theorem on_drop {h g i : Nat} (hb : h / 2 ^ i % 2 = 1) (hx : ∀ j, (g / 2 ^ j % 2 = 1) ↔ (j ≠ i ∧ h / 2 ^ j % 2 = 1)) : ∀ n, onN h n = onN g n + (if i < n then 1 else 0)
  | 0 => rfl
  | n + 1 => by
    rw [onN, onN, on_drop hb hx n]
    have m2 : ∀ a : Nat, a % 2 = 0 ∨ a % 2 = 1 := fun a => Nat.mod_two_eq_zero_or_one a
    by_cases e : n = i
    · subst e
      have hg : ¬ g / 2 ^ n % 2 = 1 := fun q => ((hx n).mp q).1 rfl
      have hg0 : g / 2 ^ n % 2 = 0 := by rcases m2 (g / 2 ^ n) with q | q; exact q; exact absurd q hg
      rw [hg0, hb, if_neg (by omega), if_pos (by omega)]
    · have heq : g / 2 ^ n % 2 = h / 2 ^ n % 2 := by
        rcases m2 (h / 2 ^ n) with q | q
        · rcases m2 (g / 2 ^ n) with q' | q'
          · rw [q, q']
          · have := ((hx n).mp q').2
            omega
        · have := (hx n).mpr ⟨e, q⟩
          rw [q, this]
      rw [heq]
      by_cases g1 : i < n
      · rw [if_pos g1, if_pos (by omega)]; omega
      · rw [if_neg g1, if_neg (by omega), Nat.add_zero, Nat.add_zero]
/-! the least of the fewest -/
def LexM (Q : Nat → Prop) (r : Int32) : Prop := (r = -1 ∧ ∀ s, s < 4096 → onN s 12 ≤ 3 → ¬ Q s) ∨ ∃ a, a < 4096 ∧ r = nI a ∧ onN a 12 ≤ 3 ∧ Q a ∧ ∀ s, s < 4096 → Q s → onN a 12 ≤ onN s 12 ∧ (onN s 12 = onN a 12 → a ≤ s)
theorem lex_un {Q : Nat → Prop} {r r' : Int32} (h : LexM Q r) (h' : LexM Q r') : r = r' := by
  rcases h with ⟨e, hn⟩ | ⟨a, ha, e, h3, hq, hm⟩
  · rcases h' with ⟨e', _⟩ | ⟨a', ha', e', h3', hq', _⟩
    · rw [e, e']
    · exact absurd hq' (hn a' ha' h3')
  · rcases h' with ⟨e', hn'⟩ | ⟨a', ha', e', h3', hq', hm'⟩
    · exact absurd hq (hn' a ha h3)
    · have m1 := hm a' ha' hq'
      have m2 := hm' a ha hq
      have : a = a' := by
        have c : onN a 12 = onN a' 12 := by omega
        have := m1.2 c.symm
        have := m2.2 c
        omega
      rw [e, e', this]
theorem lex_sub {P Q : Nat → Prop} (hPQ : ∀ s, s < 4096 → P s → Q s) (hd : ∀ s, s < 4096 → Q s → ¬ P s → ∃ g, g < 4096 ∧ Q g ∧ onN g 12 < onN s 12) {r : Int32} (h : LexM Q r) : LexM P r := by
  rcases h with ⟨e, hn⟩ | ⟨a, ha, e, h3, hq, hm⟩
  · exact Or.inl ⟨e, fun s hs h3 hp => hn s hs h3 (hPQ s hs hp)⟩
  · refine Or.inr ⟨a, ha, e, h3, ?_, fun s hs hp => hm s hs (hPQ s hs hp)⟩
    apply Classical.byContradiction
    intro hnp
    obtain ⟨g, hg, hqg, hlt⟩ := hd a ha hq hnp
    have := (hm g hg hqg).1
    omega
/-- the program's search -/
theorem ft_lex {m : Mt} {c p : Nat} {t M : Int32} {P : Nat → Prop} (hP : ∀ h, h < 4096 → (P h ↔ nI h &&& (M ^^^ (-1)) = 0 ∧ nI (wy (mB m) (kdh (mK m) h) (2 * c + p)) &&& t = 0)) : ∀ (k h : Nat) (b f : Int32), h + k = 4096 → ((b = -1 ∧ f = 4 ∧ ∀ s, s < h → onN s 12 ≤ 3 → ¬ P s) ∨ ∃ a, a < h ∧ b = nI a ∧ f = nI (onN a 12) ∧ onN a 12 ≤ 3 ∧ P a ∧ ∀ s, s < h → P s → onN a 12 ≤ onN s 12 ∧ (onN s 12 = onN a 12 → a ≤ s)) → LexM P (ftH m c p t M k h b f)
  | 0, h, b, f, e, hs => by
    rw [ftH]
    have e4 : h = 4096 := by omega
    subst e4
    rcases hs with ⟨h1, -, h3⟩ | ⟨a, h1, h2, -, h4, h5, h6⟩
    · exact Or.inl ⟨h1, h3⟩
    · exact Or.inr ⟨a, h1, h2, h4, h5, h6⟩
  | k + 1, h, b, f, e, hs => by
    have hh : h < 4096 := by omega
    have hon : onN h 12 ≤ 12 := by
      have : ∀ n, onN h n ≤ n := fun n => by
        induction n with
        | zero => exact Nat.le_refl _
        | succ n ih => rw [onN]; have := Nat.mod_lt (h / 2 ^ n) (show 0 < 2 by decide); omega
      exact this 12
    have ebc := bc_eq hh
    rw [ftH, ebc]
    by_cases hc : nI h &&& (M ^^^ (-1)) = 0 ∧ nI (onN h 12) < f ∧ nI (wy (mB m) (kdh (mK m) h) (2 * c + p)) &&& t = 0
    · rw [if_pos hc]
      have hPh : P h := (hP h hh).mpr ⟨hc.1, hc.2.2⟩
      refine ft_lex hP k (h + 1) _ _ (by omega) (Or.inr ⟨h, by omega, rfl, rfl, ?_, hPh, fun s hs' hps => ?_⟩)
      · rcases hs with ⟨-, h2, -⟩ | ⟨a, -, -, h3, h4, -, -⟩
        · have g := hc.2.1
          rw [h2] at g
          have := lt_n (b := 4) g
          omega
        · have g := hc.2.1
          rw [h3] at g
          have := lt_n g
          omega
      · by_cases es : s = h
        · subst es; exact ⟨Nat.le_refl _, fun _ => Nat.le_refl _⟩
        · rcases hs with ⟨-, h2, h3⟩ | ⟨a, h1, -, h3, h4, -, h6⟩
          · have g := hc.2.1
            rw [h2] at g
            have g2 := lt_n (b := 4) g
            have : ¬ onN s 12 ≤ 3 := fun q => h3 s (by omega) q hps
            exact ⟨by omega, fun q => by omega⟩
          · have g := hc.2.1
            rw [h3] at g
            have g2 := lt_n g
            have := (h6 s (by omega) hps).1
            exact ⟨by omega, fun q => by omega⟩
    · rw [if_neg hc]
      refine ft_lex hP k (h + 1) b f (by omega) ?_
      rcases hs with ⟨h1, h2, h3⟩ | ⟨a, h1, h2, h3, h4, h5, h6⟩
      · refine Or.inl ⟨h1, h2, fun s hs' h3' hps => ?_⟩
        by_cases es : s = h
        · subst es
          have q := (hP s hh).mp hps
          exact hc ⟨q.1, by rw [h2]; exact nI_lt (b := 4) (by omega) (by decide), q.2⟩
        · exact h3 s (by omega) h3' hps
      · refine Or.inr ⟨a, by omega, h2, h3, h4, h5, fun s hs' hps => ?_⟩
        by_cases es : s = h
        · subst es
          have q := (hP s hh).mp hps
          have : ¬ onN s 12 < onN a 12 := fun g => hc ⟨q.1, by rw [h3]; exact nI_lt g (by omega), q.2⟩
          exact ⟨by omega, fun _ => by omega⟩
        · exact h6 s (by omega) hps
