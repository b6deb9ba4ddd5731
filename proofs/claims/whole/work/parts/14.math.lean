/-! rows of signs, in numbers -/
def At (f : Nat → Int32) (a : Nat) (l : List Nat) : Prop := ∀ i, i < l.length → f (a + i) = nI (l.getD i 0)
theorem At.nil {f : Nat → Int32} {a : Nat} : At f a [] := fun i h => absurd h (Nat.not_lt_zero _)
theorem At.cons_iff {f : Nat → Int32} {a s : Nat} {l : List Nat} : At f a (s :: l) ↔ f a = nI s ∧ At f (a + 1) l := by
  constructor
  · intro h
    refine ⟨by simpa using h 0 (by simp), fun i hi => ?_⟩
    have := h (i + 1) (by simpa using hi)
    rw [show a + (i + 1) = a + 1 + i by omega] at this
    simpa using this
  · rintro ⟨h1, h2⟩ i hi
    cases i with
    | zero => simpa using h1
    | succ i =>
      have := h2 i (by simpa using hi)
      rw [show a + (i + 1) = a + 1 + i by omega]
      simpa using this
theorem At.app_iff {f : Nat → Int32} {l m : List Nat} : ∀ {a : Nat}, At f a (l ++ m) ↔ At f a l ∧ At f (a + l.length) m := by
  induction l with
  | nil => intro a; simp [At.nil]
  | cons s l ih =>
    intro a
    rw [List.cons_append, At.cons_iff, At.cons_iff, ih, List.length_cons, show a + 1 + l.length = a + (l.length + 1) by omega]
    exact and_assoc.symm
theorem At.take {f : Nat → Int32} {l : List Nat} {a : Nat} (h : At f a l) (n : Nat) : At f a (l.take n) := by
  have := h
  rw [← List.take_append_drop n l, At.app_iff] at this
  exact this.1
theorem At.drop {f : Nat → Int32} {l : List Nat} {a : Nat} (h : At f a l) {n : Nat} (hn : n ≤ l.length) : At f (a + n) (l.drop n) := by
  have := h
  rw [← List.take_append_drop n l, At.app_iff, List.length_take, Nat.min_eq_left hn] at this
  exact this.2
theorem At.congr {f g : Nat → Int32} {l : List Nat} {a : Nat} (h : At f a l) (hg : ∀ i, i < l.length → g (a + i) = f (a + i)) : At g a l := fun i hi => by rw [hg i hi]; exact h i hi
theorem At.push {f : Nat → Int32} {l : List Nat} {a s : Nat} (h : At f a l) : At (upd f (a + l.length) (nI s)) a (l ++ [s]) := by
  rw [At.app_iff]
  refine ⟨h.congr (fun i hi => pk_un (by omega)), ?_⟩
  intro i hi
  have : i = 0 := by simpa using hi
  subst this
  simp [pk_us]
/-- what a change leaves alone: all cells but these -/
def Ag (ks : List Nat) (S S' : zS) : Prop := (∀ k, k ∉ ks → S'.1 k = S.1 k) ∧ S'.2 = S.2
theorem Ag.rf {ks : List Nat} {S : zS} : Ag ks S S := ⟨fun _ _ => rfl, rfl⟩
theorem Ag.tr {ks : List Nat} {S T U : zS} (h1 : Ag ks S T) (h2 : Ag ks T U) : Ag ks S U := ⟨fun k hk => (h2.1 k hk).trans (h1.1 k hk), h2.2.trans h1.2⟩
theorem Ag.uf {ks : List Nat} {S T : zS} {q : Nat} {f : Nat → Int32} (h : Ag ks S T) (hq : q ∈ ks) : Ag ks S (z_uf T q f) := ⟨fun k hk => (uf_ne (k := k) (q := q) (fun e => hk (by rw [e]; exact hq))).trans (h.1 k hk), h.2⟩
theorem Ag.ui {ks : List Nat} {S T : zS} {q i : Nat} {x : Int32} (h : Ag ks S T) (hq : q ∈ ks) : Ag ks S (z_ui T q i x) := Ag.uf h hq
theorem Ag.mono {ks ks' : List Nat} {S T : zS} (h : Ag ks S T) (hk : ∀ k, k ∈ ks → k ∈ ks') : Ag ks' S T := ⟨fun k h2 => h.1 k (fun h3 => h2 (hk k h3)), h.2⟩
/-- a row of at most 15 signs -/
def RowR (S : zS) (r : Nat) (l : List Nat) : Prop := S.1 r 1 = nI l.length ∧ l.length ≤ 15 ∧ At (S.1 (r + 1)) 0 l
theorem RowR.push {S : zS} {r s : Nat} {l : List Nat} (h : RowR S r l) (hl : l.length < 15) : RowR (z_ui (z_ui S (r + 1) l.length (nI s)) r 1 (nI (l.length + 1))) r (l ++ [s]) := by
  refine ⟨by rw [ui_at, pk_us]; simp, by simp; omega, ?_⟩
  rw [ui_ne (by omega), ui_at]
  have := At.push (s := s) h.2.2
  rwa [Nat.zero_add] at this
/-- how far the first o types of a list reach -/
def skipL (P : Nat → Nat) : Nat → List Nat → Nat
  | 0, _ => 0
  | _ + 1, [] => 0
  | o + 1, s :: l => 1 + skipL P (o + P s) l
/-- the first o types are whole -/
def finb (P : Nat → Nat) : Nat → List Nat → Bool
  | 0, _ => true
  | _ + 1, [] => false
  | o + 1, s :: l => finb P (o + P s) l
theorem skipL_le {P : Nat → Nat} : ∀ (l : List Nat) (o : Nat), skipL P o l ≤ l.length
  | l, 0 => by simp [skipL]
  | [], o + 1 => by simp [skipL]
  | s :: l, o + 1 => by rw [skipL]; have := skipL_le (P := P) l (o + P s); simp only [List.length_cons]; omega
theorem finb_app {P : Nat → Nat} : ∀ (l m : List Nat) (o : Nat), finb P o l = true → finb P o (l ++ m) = true ∧ skipL P o (l ++ m) = skipL P o l
  | l, m, 0, _ => ⟨by simp [finb], by simp [skipL]⟩
  | [], m, o + 1, h => by simp [finb] at h
  | s :: l, m, o + 1, h => by
    rw [finb] at h
    obtain ⟨h1, h2⟩ := finb_app l m (o + P s) h
    rw [List.cons_append, finb, skipL, skipL, h2]
    exact ⟨h1, rfl⟩
theorem finb_take {P : Nat → Nat} : ∀ (l : List Nat) (o : Nat), finb P o l = true → finb P o (l.take (skipL P o l)) = true ∧ skipL P o (l.take (skipL P o l)) = (l.take (skipL P o l)).length
  | l, 0, _ => ⟨by simp [finb], by simp [skipL]⟩
  | [], o + 1, h => by simp [finb] at h
  | s :: l, o + 1, h => by
    rw [finb] at h
    obtain ⟨h1, h2⟩ := finb_take l (o + P s) h
    rw [skipL, Nat.add_comm 1, List.take_succ_cons, finb, skipL]
    refine ⟨h1, ?_⟩
    rw [h2, List.length_cons]
    omega
theorem finb_add {P : Nat → Nat} : ∀ (l : List Nat) (a b : Nat), finb P (a + b) l = true → finb P a l = true ∧ finb P b (l.drop (skipL P a l)) = true ∧ skipL P (a + b) l = skipL P a l + skipL P b (l.drop (skipL P a l))
  | l, 0, b, h => by simp only [Nat.zero_add] at h; simp [finb, skipL, h]
  | [], a + 1, b, h => by rw [show a + 1 + b = (a + b) + 1 by omega] at h; simp [finb] at h
  | s :: l, a + 1, b, h => by
    rw [show a + 1 + b = (a + b) + 1 by omega, finb, show a + b + P s = a + P s + b by omega] at h
    obtain ⟨h1, h2, h3⟩ := finb_add l (a + P s) b h
    rw [finb, skipL, show a + 1 + b = (a + b) + 1 by omega, skipL, show a + b + P s = a + P s + b by omega, h3, show 1 + skipL P (a + P s) l = skipL P (a + P s) l + 1 by omega, List.drop_succ_cons]
    exact ⟨h1, h2, by omega⟩
theorem skipL_pos {P : Nat → Nat} {l : List Nat} {o : Nat} (ho : 0 < o) (h : finb P o l = true) : 0 < skipL P o l := by
  cases o with
  | zero => omega
  | succ o =>
    cases l with
    | nil => simp [finb] at h
    | cons s l => rw [skipL]; omega
/-- the program's 'behind' over a list of signs -/
theorem bh_eq {S : zS} {P : Nat → Nat} {q N : Nat} (hP : ∀ s, s < 6 → f_par S 3 (nI s) = nI (P s)) (hP2 : ∀ s, P s ≤ 2) : ∀ (l : List Nat) (a o : Nat), (∀ s ∈ l, s < 6) → finb P o l = true → a + l.length ≤ N → N ≤ 120 → o + 2 * l.length < 2 ^ 30 → At (S.1 q) a l → f_bh S q (N - a) a (nI o) = a + skipL P o l
  | l, a, 0, _, _, _, _, _, _ => by
    rw [skipL]
    cases hN : N - a with
    | zero => rfl
    | succ k => rw [f_bh, if_pos (by rw [nI_0]; exact Int32.le_refl _)]; rfl
  | [], a, o + 1, _, h, _, _, _, _ => by simp [finb] at h
  | s :: l, a, o + 1, hs, h, hN, hN2, ho, hA => by
    rw [finb] at h
    obtain ⟨h1, h2⟩ := At.cons_iff.mp hA
    simp only [List.length_cons] at hN ho
    have hs6 := hs s List.mem_cons_self
    have hp := hP2 s
    rw [show N - a = (N - (a + 1)) + 1 by omega, f_bh, if_neg (nI_nle (by omega) (by omega)), h1, hP s hs6]
    have e : nI (o + 1) + (nI (P s) - 1) = nI (o + P s) := by
      rw [show (1 : Int32) = nI 1 from rfl]
      cases hq : P s with
      | zero =>
        rw [show nI (o + 1) = nI o + nI 1 from (nI_add o 1).symm, nI_0, Int32.zero_sub, Int32.add_assoc, Int32.add_right_neg, Int32.add_zero]
        rfl
      | succ k => rw [pk_sub (by omega), nI_add]; congr 1; omega
    rw [e, bh_eq hP hP2 l (a + 1) (o + P s) (fun x hx => hs x (List.mem_cons_of_mem _ hx)) h (by omega) hN2 (by omega) h2, skipL]
    omega
