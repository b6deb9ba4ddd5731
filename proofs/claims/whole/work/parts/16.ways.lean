/-! the book as a mathematical thing; ways -/
abbrev Bk : Type := Nat × (Nat → Nat) × (Nat → Nat) × (Nat → List Nat)
def bN (B : Bk) : Nat := B.1
def bP (B : Bk) : Nat → Nat := B.2.1
def bM (B : Bk) : Nat → Nat := B.2.2.1
def bT (B : Bk) : Nat → List Nat := B.2.2.2
def sgOk (B : Bk) (c s : Nat) : Prop := s < bN B ∨ (s = 4 ∧ 0 < bP B c) ∨ (s = 5 ∧ 1 < bP B c)
def TyOk (B : Bk) (c : Nat) (l : List Nat) : Prop := finb (bP B) 1 l = true ∧ skipL (bP B) 1 l = l.length ∧ ∀ s ∈ l, sgOk B c s
def AbOk (B : Bk) (c : Nat) (l : List Nat) : Prop := c < bN B ∧ TyOk B c l ∧ ∃ a as, l = a :: as ∧ a < c ∧ ∀ s ∈ as, bP B s = 0
def WfB (B : Bk) : Prop := bN B ≤ 4 ∧ (∀ k, bP B k ≤ 2) ∧ (∀ k, bN B ≤ k → bP B k = 0 ∧ bM B k = 0) ∧ (∀ k, bM B k ≤ 3) ∧
  (∀ c m, c < 4 → m < 3 → (m < bM B c → TyOk B c (bT B (3 * c + m))) ∧ (¬ m < bM B c → bT B (3 * c + m) = [])) ∧
  (∀ c, c < 4 → bT B (12 + c) = [] ∨ AbOk B c (bT B (12 + c)))
def BkX (S : zS) (r : Nat) (B : Bk) : Prop :=
  S.1 r 7 = nI (bN B) ∧ (∀ k, k < 4 → S.1 (r + 2) k = nI (bP B k)) ∧ (∀ k, k < 4 → S.1 (r + 3) k = nI (bM B k)) ∧
  ∀ p, p < 16 → ∃ s, S.1 (r + 5) p = nI s ∧ S.1 (r + 6) p = nI (s + (bT B p).length) ∧ s + (bT B p).length ≤ 90 ∧ At (S.1 (r + 4)) s (bT B p)
theorem wf_ty {B : Bk} (h : WfB B) {p : Nat} (hp : p < 16) : bT B p = [] ∨ ∃ c, c < 4 ∧ TyOk B c (bT B p) := by
  obtain ⟨h1, h2, h3, h4, h5, h6⟩ := h
  by_cases h12 : p < 12
  · have e : p = 3 * (p / 3) + p % 3 := by omega
    have := h5 (p / 3) (p % 3) (by omega) (by omega)
    rw [← e] at this
    by_cases hm : p % 3 < bM B (p / 3)
    · exact Or.inr ⟨p / 3, by omega, this.1 hm⟩
    · exact Or.inl (this.2 hm)
  · have e : p = 12 + (p - 12) := by omega
    have := h6 (p - 12) (by omega)
    rw [← e] at this
    rcases this with h | h
    · exact Or.inl h
    · exact Or.inr ⟨p - 12, by omega, h.2.1⟩
theorem sg6 {B : Bk} {c s : Nat} (h : WfB B) (hs : sgOk B c s) : s < 6 := by
  have := h.1
  rcases hs with h | h | h <;> omega
theorem BkX.ag {S S' : zS} {B : Bk} (h : BkX S 3 B) (hk : ∀ k, 3 ≤ k → k ≤ 9 → S'.1 k = S.1 k) : BkX S' 3 B := by
  obtain ⟨h1, h2, h3, h4⟩ := h
  refine ⟨by rw [hk 3 (by omega) (by omega)]; exact h1, fun k hk4 => by rw [hk (3 + 2) (by omega) (by omega)]; exact h2 k hk4, fun k hk4 => by rw [hk (3 + 3) (by omega) (by omega)]; exact h3 k hk4, fun p hp => ?_⟩
  obtain ⟨s, a1, a2, a3, a4⟩ := h4 p hp
  refine ⟨s, by rw [hk (3 + 5) (by omega) (by omega)]; exact a1, by rw [hk (3 + 6) (by omega) (by omega)]; exact a2, a3, ?_⟩
  rw [hk (3 + 4) (by omega) (by omega)]
  exact a4
theorem in_n {k n : Nat} (h : k < n) (hn : n < 2 ^ 31) : (0 : Int32) ≤ nI k ∧ nI k < nI n := ⟨nI_pos' (by omega), nI_lt h hn⟩
theorem in4 {k : Nat} (h : k < 4) : (0 : Int32) ≤ nI k ∧ nI k < 4 := in_n (n := 4) h (by omega)
theorem in8 {k : Nat} (h : k < 8) : (0 : Int32) ≤ nI k ∧ nI k < 8 := in_n (n := 8) h (by omega)
theorem in12 {k : Nat} (h : k < 12) : (0 : Int32) ≤ nI k ∧ nI k < 12 := in_n (n := 12) h (by omega)
theorem in15 {k : Nat} (h : k < 15) : (0 : Int32) ≤ nI k ∧ nI k < 15 := in_n (n := 15) h (by omega)
theorem in16 {k : Nat} (h : k < 16) : (0 : Int32) ≤ nI k ∧ nI k < 16 := in_n (n := 16) h (by omega)
theorem in34 {k : Nat} (h : k < 34) : (0 : Int32) ≤ nI k ∧ nI k < 34 := in_n (n := 34) h (by omega)
theorem in90 {k : Nat} (h : k < 90) : (0 : Int32) ≤ nI k ∧ nI k < 90 := in_n (n := 90) h (by omega)
theorem bk_par {S : zS} {r : Nat} {B : Bk} (h : BkX S r B) (hw : WfB B) {s : Nat} (hs : s < 2 ^ 31) : f_par S r (nI s) = nI (bP B s) := by
  unfold f_par
  by_cases h4 : s < 4
  · rw [if_pos (in4 h4), nI_clamp hs]; exact h.2.1 s h4
  · rw [if_neg (fun q => nI_nlt (a := s) (b := 4) (by omega) hs q.2), (hw.2.2.1 s (by have := hw.1; omega)).1]; rfl
theorem bk_mem {S : zS} {r : Nat} {B : Bk} (h : BkX S r B) (hw : WfB B) {s : Nat} (hs : s < 2 ^ 31) : f_mem S r (nI s) = nI (bM B s) := by
  unfold f_mem
  by_cases h4 : s < 4
  · rw [if_pos (in4 h4), nI_clamp hs]; exact h.2.2.1 s h4
  · rw [if_neg (fun q => nI_nlt (a := s) (b := 4) (by omega) hs q.2), (hw.2.2.1 s (by have := hw.1; omega)).2]; rfl
theorem bk_ty {S : zS} {r : Nat} {B : Bk} (h : BkX S r B) {p : Nat} (hp : p < 16) : ∃ s, f_sta S r (nI p) = nI s ∧ f_end S r (nI p) = nI (s + (bT B p).length) ∧ s + (bT B p).length ≤ 90 ∧ At (S.1 (r + 4)) s (bT B p) ∧ ∀ i, i < (bT B p).length → f_sgn S r (nI (s + i)) = nI ((bT B p).getD i 0) := by
  obtain ⟨s, a1, a2, a3, a4⟩ := h.2.2.2 p hp
  refine ⟨s, ?_, ?_, a3, a4, fun i hi => ?_⟩
  · unfold f_sta; rw [if_pos (in16 hp), nI_clamp (by omega)]; exact a1
  · unfold f_end; rw [if_pos (in16 hp), nI_clamp (by omega)]; exact a2
  · unfold f_sgn; rw [if_pos (in90 (k := s + i) (by omega)), nI_clamp (by omega)]; exact a4 i hi
/-! ways -/
def sw (w : Nat) : Nat := (w % 2) * 2 ||| (w / 2 % 2)
def thr (w q : Nat) : Nat := (if q % 2 = 1 then w else 0) ||| (if q / 2 % 2 = 1 then sw w else 0)
def aw (P V : Nat → Nat) (s w : Nat) : List Nat := (List.range (P s)).map (fun p => thr w (V (2 * s + p)))
/-- what a list of signs adds to the first and the second parameter, its types going the ways ws -/
def tl (P V : Nat → Nat) : List Nat → List Nat → Nat × Nat
  | [], _ => (0, 0)
  | _ :: _, [] => (0, 0)
  | s :: l, w :: ws => if s = 4 then (w ||| (tl P V l ws).1, (tl P V l ws).2) else if s = 5 then ((tl P V l ws).1, w ||| (tl P V l ws).2) else tl P V l (aw P V s w ++ ws)
theorem thr_lt : ∀ w, w < 4 → ∀ q, q < 4 → thr w q < 4 := by decide +kernel
theorem thr_eq : ∀ w, w < 4 → ∀ q, q < 4 → ((if nI q &&& 1 = 0 then (0 : Int32) else nI w) ||| (if nI q &&& 2 = 0 then (0 : Int32) else ((nI w &&& 1) <<< (1 &&& 31) ||| (nI w &&& 2) >>> (1 &&& 31)))) = nI (thr w q) := by decide +kernel
theorem or_lt : ∀ a, a < 4 → ∀ b, b < 4 → a ||| b < 4 := by decide +kernel
theorem or_1 : ∀ a, a < 4 → ∀ b, b < 4 → ∀ w, w < 4 → nI (a + 4 * b) ||| nI w = nI ((a ||| w) + 4 * b) := by decide +kernel
theorem or_2 : ∀ a, a < 4 → ∀ b, b < 4 → ∀ w, w < 4 → nI (a + 4 * b) ||| nI w <<< (2 &&& 31) = nI (a + 4 * (b ||| w)) := by decide +kernel
theorem aw_lt {P V : Nat → Nat} {s w : Nat} (hV : ∀ j, V j < 4) (hw : w < 4) : ∀ x ∈ aw P V s w, x < 4 := by
  intro x hx
  obtain ⟨p, -, rfl⟩ := List.mem_map.mp hx
  exact thr_lt w hw _ (hV _)
theorem aw_len {P V : Nat → Nat} {s w : Nat} : (aw P V s w).length = P s := by simp [aw]
theorem tl_lt {P V : Nat → Nat} (hV : ∀ j, V j < 4) : ∀ (l ws : List Nat), (∀ x ∈ ws, x < 4) → (tl P V l ws).1 < 4 ∧ (tl P V l ws).2 < 4
  | [], ws, _ => by simp [tl]
  | s :: l, [], _ => by simp [tl]
  | s :: l, w :: ws, h => by
    have hw := h w List.mem_cons_self
    have hws : ∀ x ∈ ws, x < 4 := fun x hx => h x (List.mem_cons_of_mem _ hx)
    rw [tl]
    by_cases h4 : s = 4
    · rw [if_pos h4]
      have := tl_lt (P := P) hV l ws hws
      exact ⟨or_lt _ hw _ this.1, this.2⟩
    · rw [if_neg h4]
      by_cases h5 : s = 5
      · rw [if_pos h5]
        have := tl_lt (P := P) hV l ws hws
        exact ⟨this.1, or_lt _ hw _ this.2⟩
      · rw [if_neg h5]
        refine tl_lt hV l _ (fun x hx => ?_)
        rcases List.mem_append.mp hx with hx | hx
        · exact aw_lt hV hw x hx
        · exact hws x hx
theorem finb_len {P : Nat → Nat} : ∀ (l : List Nat) (o : Nat), finb P o l = true → o ≤ l.length
  | l, 0, _ => Nat.zero_le _
  | [], o + 1, h => by simp [finb] at h
  | s :: l, o + 1, h => by
    rw [finb] at h
    have := finb_len l (o + P s) h
    simp only [List.length_cons]
    omega
def WyR (S : zS) (r : Nat) (V : Nat → Nat) : Prop := (∀ j, V j < 4) ∧ ∀ j, j < 8 → S.1 (r + 1) j = nI (V j)
theorem wy_at {S : zS} {r : Nat} {V : Nat → Nat} (h : WyR S r V) {s p : Nat} (hs : s < 4) (hp : p < 2) : f_way S r (nI s) (nI p) = nI (V (2 * s + p)) := by
  unfold f_way
  have e : 2 * nI s + nI p = nI (2 * s + p) := by rw [show (2 : Int32) = nI 2 from rfl, pk_mul, nI_add]
  rw [e, if_pos (in8 (k := 2 * s + p) (by omega)), nI_clamp (by omega)]
  exact h.2 _ (by omega)
theorem g_mono {X : zX} {d : Nat} {y : zM} {Post Post' : Value → zS → Prop} {pc : Nat} {L : List (Option Value)} {st : List Value} {S : zS} (h : ∀ v S', Post v S' → Post' v S') (k : Go X d y Post pc L st S) : Go X d y Post' pc L st S := by
  intro p e s m args below meth c H locs ls C hP hS hl T hT X'
  obtain ⟨t, h1, o, h2, h3, ⟨⟨v, S', a1, a2, a3, a4⟩, a5⟩, h5⟩ := k p e s m args below meth c H locs ls C hP hS hl T hT X'
  exact ⟨t, h1, o, h2, h3, ⟨⟨v, S', a1, a2, h v S' a3, a4⟩, a5⟩, h5⟩
section
variable {l : Launch} {D : va_G} {ad : Nat → Nat} {cA : ClassId} {d r q n : Nat} {x z : Int32} {S S0 : zS} {B : Bk} {V : Nat → Nat}
def awPost (S0 : zS) (q o k : Nat) (f : Nat → Nat) : Value → zS → Prop := fun v S' => v = .int (nI (o + k)) ∧ Ag [q] S0 S' ∧ (∀ i, i < o → S'.1 q i = S0.1 q i) ∧ At (S'.1 q) o ((List.range k).map f).reverse
theorem awPost.step {q o k : Nat} {f : Nat → Nat} {v : Value} {S' : zS} (h : awPost (z_ui S q o (nI (f k))) q (o + 1) k f v S') : awPost S q o (k + 1) f v S' := by
  obtain ⟨rfl, h2, h3, h4⟩ := h
  refine ⟨by rw [show o + 1 + k = o + (k + 1) by omega], (Ag.rf.ui List.mem_cons_self).tr h2, fun i hi => ?_, ?_⟩
  · rw [h3 i (by omega), ui_at, pk_un (by omega)]
  · rw [List.range_succ, List.map_append, List.reverse_append]
    refine At.cons_iff.mpr ⟨?_, h4⟩
    rw [h3 o (by omega), ui_at, pk_us]
theorem lp_await (hr : (r = 30 ∧ q = 33) ∨ (r = 34 ∧ q = 37)) {s w : Nat} (hs : s < 4) (hw : w < 4) (hV : WyR S0 r V) {w3 : Int32} : ∀ (k o : Nat) (S : zS), k ≤ 2 → o + k ≤ 92 → Ag [q] S0 S → Go (l, wX, D, ad, cA) 1 m_Ways_awaitArguments (awPost S q o k (fun p => thr w (V (2 * s + p)))) 15 [some (.ref r), some (.int (nI s)), some (.int (nI w)), some (.int w3), some (.int (nI o)), some (.int (nI k + (-1)))] [] S := by
  rcases hr with ⟨rfl, rfl⟩ | ⟨rfl, rfl⟩
  · intro k
    induction k with
    | zero =>
      intro o S hk ho hA
      refine (g_ld rfl rfl rfl (g_if rfl rfl (fun zc17 => (g_ld rfl rfl rfl (g_ri rfl rfl rfl ?_))) (fun zc17 => ?_)))
      · exact ⟨rfl, Ag.rf, fun _ _ => rfl, At.nil⟩
      · exact absurd (by decide) zc17
    | succ k ih =>
      intro o S hk ho hA
      rw [pk_m1]
      refine (g_ld rfl rfl rfl (g_if rfl rfl (fun zc17 => (g_ld rfl rfl rfl (g_ri rfl rfl rfl ?_))) (fun zc17 => (g_ld rfl rfl rfl (g_ld rfl rfl rfl (g_gr rfl rfl rfl rfl rfl (g_len rfl rfl rfl (g_if rfl rfl (fun zc27 => (g_inc rfl rfl rfl rfl (g_go rfl ?_))) (fun zc27 => (g_ld rfl rfl rfl (g_gr rfl rfl rfl rfl rfl (g_ld rfl rfl rfl (g_ld rfl rfl rfl (g_ld rfl rfl rfl (g_ld rfl rfl rfl (g_ld rfl rfl rfl (g_cv rfl (s_wayOf (by decide)) (by omega) rfl rfl rfl rfl rfl rfl rfl rfl rfl (z_k1 (g_cs rfl (s_through) (by omega) rfl rfl rfl rfl rfl rfl (z_k1 (g_ast rfl rfl rfl ?_ (g_inc rfl rfl rfl rfl (g_inc rfl rfl rfl rfl (g_go rfl ?_))))))))))))))))))))))))
      · exact absurd zc17 (nI_pos (by omega))
      · have := le_n (a := 92) zc27; omega
      · exact vp_in_nI (by omega) (by omega)
      · have hV2 : WyR S 30 V := ⟨hV.1, fun j hj => by rw [hA.1 _ (by decide)]; exact hV.2 j hj⟩
        rw [wy_at hV2 hs (by omega), thr_eq w hw _ (hV.1 _), nI_clamp (by omega)]
        have := ih (o + 1) _ (by omega) (by omega) (hA.ui (i := o) (x := nI (thr w (V (2 * s + k)))) List.mem_cons_self)
        rw [nI_succ] at this
        exact g_mono (fun v S' h => h.step) this
  · intro k
    induction k with
    | zero =>
      intro o S hk ho hA
      refine (g_ld rfl rfl rfl (g_if rfl rfl (fun zc17 => (g_ld rfl rfl rfl (g_ri rfl rfl rfl ?_))) (fun zc17 => ?_)))
      · exact ⟨rfl, Ag.rf, fun _ _ => rfl, At.nil⟩
      · exact absurd (by decide) zc17
    | succ k ih =>
      intro o S hk ho hA
      rw [pk_m1]
      refine (g_ld rfl rfl rfl (g_if rfl rfl (fun zc17 => (g_ld rfl rfl rfl (g_ri rfl rfl rfl ?_))) (fun zc17 => (g_ld rfl rfl rfl (g_ld rfl rfl rfl (g_gr rfl rfl rfl rfl rfl (g_len rfl rfl rfl (g_if rfl rfl (fun zc27 => (g_inc rfl rfl rfl rfl (g_go rfl ?_))) (fun zc27 => (g_ld rfl rfl rfl (g_gr rfl rfl rfl rfl rfl (g_ld rfl rfl rfl (g_ld rfl rfl rfl (g_ld rfl rfl rfl (g_ld rfl rfl rfl (g_ld rfl rfl rfl (g_cv rfl (s_wayOf (by decide)) (by omega) rfl rfl rfl rfl rfl rfl rfl rfl rfl (z_k1 (g_cs rfl (s_through) (by omega) rfl rfl rfl rfl rfl rfl (z_k1 (g_ast rfl rfl rfl ?_ (g_inc rfl rfl rfl rfl (g_inc rfl rfl rfl rfl (g_go rfl ?_))))))))))))))))))))))))
      · exact absurd zc17 (nI_pos (by omega))
      · have := le_n (a := 92) zc27; omega
      · exact vp_in_nI (by omega) (by omega)
      · have hV2 : WyR S 34 V := ⟨hV.1, fun j hj => by rw [hA.1 _ (by decide)]; exact hV.2 j hj⟩
        rw [wy_at hV2 hs (by omega), thr_eq w hw _ (hV.1 _), nI_clamp (by omega)]
        have := ih (o + 1) _ (by omega) (by omega) (hA.ui (i := o) (x := nI (thr w (V (2 * s + k)))) List.mem_cons_self)
        rw [nI_succ] at this
        exact g_mono (fun v S' h => h.step) this
theorem s_await (hr : (r = 30 ∧ q = 33) ∨ (r = 34 ∧ q = 37)) (hB : BkX S 3 B) (hW : WfB B) {s w o : Nat} (hs : s < 4) (hw : w < 4) (ho : o ≤ 90) (hV : WyR S r V) : Sp (l, wX, D, ad, cA) 1 m_Ways_awaitArguments [.ref r, .int (nI s), .int (nI w), .int (nI o)] S (awPost S q o (bP B s) (fun p => thr w (V (2 * s + p)))) := by
  have hp := hW.2.1 s
  have e : f_par S 3 (nI s) - 1 = nI (bP B s) + (-1) := by
    rw [bk_par hB hW (by omega), Int32.sub_eq_add_neg]
  have key := lp_await (l := l) (D := D) (ad := ad) (cA := cA) hr hs hw hV (w3 := nI o) (bP B s) o S hp (by omega) Ag.rf
  rcases hr with ⟨rfl, rfl⟩ | ⟨rfl, rfl⟩
  all_goals
    refine Sp.of dk_Ways_awaitArguments ok_Ways_awaitArguments rfl (g_ld rfl rfl rfl (g_st rfl rfl rfl rfl rfl (g_ld rfl rfl rfl (g_gr rfl rfl rfl rfl rfl (g_ld rfl rfl rfl (g_cv rfl (s_parametersOf (by decide)) (by omega) rfl rfl rfl rfl rfl rfl rfl rfl rfl (z_k1 (g_c rfl rfl (g_bin rfl rfl (g_st rfl rfl rfl rfl rfl ?_))))))))))
    rw [e]
    exact key
/-- toldBy -/
def tdPost (S0 : zS) (q : Nat) (t : Nat × Nat) : Value → zS → Prop := fun v S' => v = .int (nI (t.1 + 4 * t.2)) ∧ Ag [q] S0 S'
theorem lp_toldBy (hr : (r = 30 ∧ q = 33) ∨ (r = 34 ∧ q = 37)) (hB : BkX S0 3 B) (hW : WfB B) (hV : WyR S0 r V) {p st : Nat} {w2 : Int32} (h1 : f_sta S0 3 (nI p) = nI st) (h2 : f_end S0 3 (nI p) = nI (st + (bT B p).length)) (h3 : st + (bT B p).length ≤ 90) (h4 : ∀ i, i < (bT B p).length → f_sgn S0 3 (nI (st + i)) = nI ((bT B p).getD i 0)) (h6 : ∀ s ∈ bT B p, s < 6) : ∀ (m : List Nat) (i : Nat) (ws : List Nat) (a b : Nat) (S : zS) (w6 w7 : Option Value), (bT B p).drop i = m → i + m.length = (bT B p).length → finb (bP B) ws.length m = true → (∀ x ∈ ws, x < 4) → a < 4 → b < 4 → Ag [q] S0 S → At (S.1 q) 0 ws.reverse → Go (l, wX, D, ad, cA) 2 m_Ways_toldBy (tdPost S0 q ((a ||| (tl (bP B) V m ws).1), (b ||| (tl (bP B) V m ws).2))) 22 [some (.ref r), some (.int (nI p)), some (.int w2), some (.int (nI (a + 4 * b))), some (.int (nI ws.length)), some (.int (nI (st + i))), w6, w7] [] S := by
  have hr0 := hr
  rcases hr with ⟨rfl, rfl⟩ | ⟨rfl, rfl⟩
  · intro m
    induction m with
    | nil =>
      intro i ws a b S w6 w7 hm hi hf hws ha hb hA hAt
      have e1 : f_end S 3 (nI p) = nI (st + (bT B p).length) := by rw [← h2]; unfold f_end; rw [hA.1 _ (by decide)]
      simp only [List.length_nil, Nat.add_zero] at hi
      refine (g_ld rfl rfl rfl (g_ld rfl rfl rfl (g_gr rfl rfl rfl rfl rfl (g_ld rfl rfl rfl (g_cv rfl (s_endOf (by decide)) (by omega) rfl rfl rfl rfl rfl rfl rfl rfl rfl (z_k1 (g_if rfl rfl (fun zc32 => (g_ld rfl rfl rfl (g_ri rfl rfl rfl ?_))) (fun zc32 => (g_ld rfl rfl rfl (g_if rfl rfl (fun zc37 => (g_ld rfl rfl rfl (g_ri rfl rfl rfl ?_))) (fun zc37 => ?_)))))))))))
      · exact ⟨by simp [tl], hA⟩
      · exact ⟨by simp [tl], hA⟩
      · rw [e1, hi] at zc32
        exact absurd (Int32.le_refl _) zc32
    | cons s m ih =>
      intro i ws a b S w6 w7 hm hi hf hws ha hb hA hAt
      have e1 : f_end S 3 (nI p) = nI (st + (bT B p).length) := by rw [← h2]; unfold f_end; rw [hA.1 _ (by decide)]
      simp only [List.length_cons] at hi
      have hsm : (bT B p).getD i 0 = s ∧ (bT B p).drop (i + 1) = m ∧ s ∈ bT B p := by
        have e : (bT B p)[i]? = some s := by rw [← List.head?_drop, hm]; rfl
        refine ⟨by rw [List.getD_eq_getElem?_getD, e]; rfl, ?_, List.mem_of_getElem? e⟩
        rw [← List.drop_drop, hm]; rfl
      have e2 : f_sgn S 3 (nI (st + i)) = nI s := by rw [← hsm.1, ← h4 i (by omega)]; unfold f_sgn; rw [hA.1 _ (by decide)]
      cases ws with
      | nil =>
        refine (g_ld rfl rfl rfl (g_ld rfl rfl rfl (g_gr rfl rfl rfl rfl rfl (g_ld rfl rfl rfl (g_cv rfl (s_endOf (by decide)) (by omega) rfl rfl rfl rfl rfl rfl rfl rfl rfl (z_k1 (g_if rfl rfl (fun zc32 => (g_ld rfl rfl rfl (g_ri rfl rfl rfl ?_))) (fun zc32 => (g_ld rfl rfl rfl (g_if rfl rfl (fun zc37 => (g_ld rfl rfl rfl (g_ri rfl rfl rfl ?_))) (fun zc37 => ?_)))))))))))
        · exact ⟨by simp [tl], hA⟩
        · exact ⟨by simp [tl], hA⟩
        · exact absurd (by decide) zc37
      | cons w ws =>
        have hw := hws w List.mem_cons_self
        have hws2 : ∀ x ∈ ws, x < 4 := fun x hx => hws x (List.mem_cons_of_mem _ hx)
        have hlen := finb_len _ _ hf
        simp only [List.length_cons] at hlen
        rw [List.reverse_cons, At.app_iff, List.length_reverse] at hAt
        have e3 : S.1 33 (nI (w :: ws).length + (-1)).toNatClampNeg = nI w := by
          rw [List.length_cons, pk_m1, nI_clamp (by omega)]
          have := hAt.2 0 (by simp)
          simpa using this
        have e4 : nI (w :: ws).length + (-1) = nI ws.length := by rw [List.length_cons, pk_m1]
        have hB2 : BkX S 3 B := hB.ag (fun k h3 h9 => hA.1 k (by simp; omega))
        have hV2 : WyR S 30 V := ⟨hV.1, fun j hj => by rw [hA.1 _ (by decide)]; exact hV.2 j hj⟩
        rw [List.length_cons, finb] at hf
        refine (g_ld rfl rfl rfl (g_ld rfl rfl rfl (g_gr rfl rfl rfl rfl rfl (g_ld rfl rfl rfl (g_cv rfl (s_endOf (by decide)) (by omega) rfl rfl rfl rfl rfl rfl rfl rfl rfl (z_k1 (g_if rfl rfl (fun zc32 => (g_ld rfl rfl rfl (g_ri rfl rfl rfl ?_))) (fun zc32 => (g_ld rfl rfl rfl (g_if rfl rfl (fun zc37 => (g_ld rfl rfl rfl (g_ri rfl rfl rfl ?_))) (fun zc37 => (g_inc rfl rfl rfl rfl (g_ld rfl rfl rfl (g_gr rfl rfl rfl rfl rfl (g_ld rfl rfl rfl (g_ald rfl rfl rfl ?_ (g_st rfl rfl rfl rfl rfl (g_ld rfl rfl rfl (g_gr rfl rfl rfl rfl rfl (g_ld rfl rfl rfl (g_cv rfl (s_signAt (by decide)) (by omega) rfl rfl rfl rfl rfl rfl rfl rfl rfl (z_k1 (g_st rfl rfl rfl rfl rfl ?_)))))))))))))))))))))))
        · rw [e1] at zc32
          have := le_n zc32
          omega
        · exact absurd zc37 (nI_nle (by simp) (by simp; omega))
        · rw [e4]; exact vp_in_nI (by omega) (by omega)
        · rw [e2, e3, e4]
          have hs6 := h6 s hsm.2.2
          have hs4 : nI s ≠ 4 → nI s ≠ 5 → s < 4 := by
            intro q1 q2
            have g1 : s ≠ 4 := fun z => q1 (by rw [z]; rfl)
            have g2 : s ≠ 5 := fun z => q2 (by rw [z]; rfl)
            omega
          have hz : 4 ≤ s → bP B s = 0 := fun h => (hW.2.2.1 s (by have := hW.1; omega)).1
          refine (g_ld rfl rfl rfl (g_c rfl rfl (g_if rfl rfl (fun zc66 => (g_ld rfl rfl rfl (g_c rfl rfl (g_if rfl rfl (fun zc80 => (g_ld rfl rfl rfl (g_ld rfl rfl rfl (g_ld rfl rfl rfl (g_ld rfl rfl rfl (g_cv rfl (s_await hr0 hB2 hW (hs4 zc66 zc80) hw (by omega) hV2) (by omega) rfl rfl rfl rfl rfl rfl rfl rfl rfl (fun zv100 zS100 zh100 => ?_))))))) (fun zc80 => (g_ld rfl rfl rfl (g_ld rfl rfl rfl (g_c rfl rfl (g_bin rfl rfl (g_bin rfl rfl (g_st rfl rfl rfl rfl rfl (g_go rfl (g_inc rfl rfl rfl rfl (g_go rfl ?_)))))))))))))) (fun zc66 => (g_ld rfl rfl rfl (g_ld rfl rfl rfl (g_bin rfl rfl (g_st rfl rfl rfl rfl rfl (g_go rfl (g_inc rfl rfl rfl rfl (g_go rfl ?_)))))))))))
          · obtain ⟨rfl, hA3, hlow, hAt3⟩ := zh100
            refine (g_st rfl rfl rfl rfl rfl (g_inc rfl rfl rfl rfl (g_go rfl ?_)))
            have hs := hs4 zc66 zc80
            have := ih (i + 1) (aw (bP B) V s w ++ ws) a b zS100 (some (.int (nI w))) (some (.int (nI s))) hsm.2.1 (by omega) (by rw [List.length_append, aw_len, Nat.add_comm]; exact hf) (fun x hx => by
              rcases List.mem_append.mp hx with hx | hx
              · exact aw_lt hV.1 hw x hx
              · exact hws2 x hx) ha hb (hA.tr hA3) (by
              rw [List.reverse_append, At.app_iff, List.length_reverse, Nat.zero_add]
              refine ⟨hAt.1.congr (fun j hj => ?_), hAt3⟩
              rw [Nat.zero_add]
              exact hlow j (by simpa using hj))
            rw [List.length_append, aw_len, Nat.add_comm (bP B s), ← Nat.add_assoc, nI_succ] at this
            rw [tl, if_neg (by omega), if_neg (by omega)]
            exact this
          · have hs5 : s = 5 := eq_n (b := 5) (Decidable.not_not.mp zc80)
            have := ih (i + 1) ws a (b ||| w) S (some (.int (nI w))) (some (.int (nI s))) hsm.2.1 (by omega) (by rw [hz (by omega)] at hf; exact hf) hws2 ha (or_lt _ hb _ hw) hA hAt.1
            rw [← Nat.add_assoc, nI_succ] at this
            rw [or_2 a ha b hb w hw, tl, if_neg (by omega), if_pos hs5, ← Nat.or_assoc]
            exact this
          · have hs5 : s = 4 := eq_n (b := 4) (Decidable.not_not.mp zc66)
            have := ih (i + 1) ws (a ||| w) b S (some (.int (nI w))) (some (.int (nI s))) hsm.2.1 (by omega) (by rw [hz (by omega)] at hf; exact hf) hws2 (or_lt _ ha _ hw) hb hA hAt.1
            rw [← Nat.add_assoc, nI_succ] at this
            rw [or_1 a ha b hb w hw, tl, if_pos hs5, ← Nat.or_assoc]
            exact this
  · intro m
    induction m with
    | nil =>
      intro i ws a b S w6 w7 hm hi hf hws ha hb hA hAt
      have e1 : f_end S 3 (nI p) = nI (st + (bT B p).length) := by rw [← h2]; unfold f_end; rw [hA.1 _ (by decide)]
      simp only [List.length_nil, Nat.add_zero] at hi
      refine (g_ld rfl rfl rfl (g_ld rfl rfl rfl (g_gr rfl rfl rfl rfl rfl (g_ld rfl rfl rfl (g_cv rfl (s_endOf (by decide)) (by omega) rfl rfl rfl rfl rfl rfl rfl rfl rfl (z_k1 (g_if rfl rfl (fun zc32 => (g_ld rfl rfl rfl (g_ri rfl rfl rfl ?_))) (fun zc32 => (g_ld rfl rfl rfl (g_if rfl rfl (fun zc37 => (g_ld rfl rfl rfl (g_ri rfl rfl rfl ?_))) (fun zc37 => ?_)))))))))))
      · exact ⟨by simp [tl], hA⟩
      · exact ⟨by simp [tl], hA⟩
      · rw [e1, hi] at zc32
        exact absurd (Int32.le_refl _) zc32
    | cons s m ih =>
      intro i ws a b S w6 w7 hm hi hf hws ha hb hA hAt
      have e1 : f_end S 3 (nI p) = nI (st + (bT B p).length) := by rw [← h2]; unfold f_end; rw [hA.1 _ (by decide)]
      simp only [List.length_cons] at hi
      have hsm : (bT B p).getD i 0 = s ∧ (bT B p).drop (i + 1) = m ∧ s ∈ bT B p := by
        have e : (bT B p)[i]? = some s := by rw [← List.head?_drop, hm]; rfl
        refine ⟨by rw [List.getD_eq_getElem?_getD, e]; rfl, ?_, List.mem_of_getElem? e⟩
        rw [← List.drop_drop, hm]; rfl
      have e2 : f_sgn S 3 (nI (st + i)) = nI s := by rw [← hsm.1, ← h4 i (by omega)]; unfold f_sgn; rw [hA.1 _ (by decide)]
      cases ws with
      | nil =>
        refine (g_ld rfl rfl rfl (g_ld rfl rfl rfl (g_gr rfl rfl rfl rfl rfl (g_ld rfl rfl rfl (g_cv rfl (s_endOf (by decide)) (by omega) rfl rfl rfl rfl rfl rfl rfl rfl rfl (z_k1 (g_if rfl rfl (fun zc32 => (g_ld rfl rfl rfl (g_ri rfl rfl rfl ?_))) (fun zc32 => (g_ld rfl rfl rfl (g_if rfl rfl (fun zc37 => (g_ld rfl rfl rfl (g_ri rfl rfl rfl ?_))) (fun zc37 => ?_)))))))))))
        · exact ⟨by simp [tl], hA⟩
        · exact ⟨by simp [tl], hA⟩
        · exact absurd (by decide) zc37
      | cons w ws =>
        have hw := hws w List.mem_cons_self
        have hws2 : ∀ x ∈ ws, x < 4 := fun x hx => hws x (List.mem_cons_of_mem _ hx)
        have hlen := finb_len _ _ hf
        simp only [List.length_cons] at hlen
        rw [List.reverse_cons, At.app_iff, List.length_reverse] at hAt
        have e3 : S.1 37 (nI (w :: ws).length + (-1)).toNatClampNeg = nI w := by
          rw [List.length_cons, pk_m1, nI_clamp (by omega)]
          have := hAt.2 0 (by simp)
          simpa using this
        have e4 : nI (w :: ws).length + (-1) = nI ws.length := by rw [List.length_cons, pk_m1]
        have hB2 : BkX S 3 B := hB.ag (fun k h3 h9 => hA.1 k (by simp; omega))
        have hV2 : WyR S 34 V := ⟨hV.1, fun j hj => by rw [hA.1 _ (by decide)]; exact hV.2 j hj⟩
        rw [List.length_cons, finb] at hf
        refine (g_ld rfl rfl rfl (g_ld rfl rfl rfl (g_gr rfl rfl rfl rfl rfl (g_ld rfl rfl rfl (g_cv rfl (s_endOf (by decide)) (by omega) rfl rfl rfl rfl rfl rfl rfl rfl rfl (z_k1 (g_if rfl rfl (fun zc32 => (g_ld rfl rfl rfl (g_ri rfl rfl rfl ?_))) (fun zc32 => (g_ld rfl rfl rfl (g_if rfl rfl (fun zc37 => (g_ld rfl rfl rfl (g_ri rfl rfl rfl ?_))) (fun zc37 => (g_inc rfl rfl rfl rfl (g_ld rfl rfl rfl (g_gr rfl rfl rfl rfl rfl (g_ld rfl rfl rfl (g_ald rfl rfl rfl ?_ (g_st rfl rfl rfl rfl rfl (g_ld rfl rfl rfl (g_gr rfl rfl rfl rfl rfl (g_ld rfl rfl rfl (g_cv rfl (s_signAt (by decide)) (by omega) rfl rfl rfl rfl rfl rfl rfl rfl rfl (z_k1 (g_st rfl rfl rfl rfl rfl ?_)))))))))))))))))))))))
        · rw [e1] at zc32
          have := le_n zc32
          omega
        · exact absurd zc37 (nI_nle (by simp) (by simp; omega))
        · rw [e4]; exact vp_in_nI (by omega) (by omega)
        · rw [e2, e3, e4]
          have hs6 := h6 s hsm.2.2
          have hs4 : nI s ≠ 4 → nI s ≠ 5 → s < 4 := by
            intro q1 q2
            have g1 : s ≠ 4 := fun z => q1 (by rw [z]; rfl)
            have g2 : s ≠ 5 := fun z => q2 (by rw [z]; rfl)
            omega
          have hz : 4 ≤ s → bP B s = 0 := fun h => (hW.2.2.1 s (by have := hW.1; omega)).1
          refine (g_ld rfl rfl rfl (g_c rfl rfl (g_if rfl rfl (fun zc66 => (g_ld rfl rfl rfl (g_c rfl rfl (g_if rfl rfl (fun zc80 => (g_ld rfl rfl rfl (g_ld rfl rfl rfl (g_ld rfl rfl rfl (g_ld rfl rfl rfl (g_cv rfl (s_await hr0 hB2 hW (hs4 zc66 zc80) hw (by omega) hV2) (by omega) rfl rfl rfl rfl rfl rfl rfl rfl rfl (fun zv100 zS100 zh100 => ?_))))))) (fun zc80 => (g_ld rfl rfl rfl (g_ld rfl rfl rfl (g_c rfl rfl (g_bin rfl rfl (g_bin rfl rfl (g_st rfl rfl rfl rfl rfl (g_go rfl (g_inc rfl rfl rfl rfl (g_go rfl ?_)))))))))))))) (fun zc66 => (g_ld rfl rfl rfl (g_ld rfl rfl rfl (g_bin rfl rfl (g_st rfl rfl rfl rfl rfl (g_go rfl (g_inc rfl rfl rfl rfl (g_go rfl ?_)))))))))))
          · obtain ⟨rfl, hA3, hlow, hAt3⟩ := zh100
            refine (g_st rfl rfl rfl rfl rfl (g_inc rfl rfl rfl rfl (g_go rfl ?_)))
            have hs := hs4 zc66 zc80
            have := ih (i + 1) (aw (bP B) V s w ++ ws) a b zS100 (some (.int (nI w))) (some (.int (nI s))) hsm.2.1 (by omega) (by rw [List.length_append, aw_len, Nat.add_comm]; exact hf) (fun x hx => by
              rcases List.mem_append.mp hx with hx | hx
              · exact aw_lt hV.1 hw x hx
              · exact hws2 x hx) ha hb (hA.tr hA3) (by
              rw [List.reverse_append, At.app_iff, List.length_reverse, Nat.zero_add]
              refine ⟨hAt.1.congr (fun j hj => ?_), hAt3⟩
              rw [Nat.zero_add]
              exact hlow j (by simpa using hj))
            rw [List.length_append, aw_len, Nat.add_comm (bP B s), ← Nat.add_assoc, nI_succ] at this
            rw [tl, if_neg (by omega), if_neg (by omega)]
            exact this
          · have hs5 : s = 5 := eq_n (b := 5) (Decidable.not_not.mp zc80)
            have := ih (i + 1) ws a (b ||| w) S (some (.int (nI w))) (some (.int (nI s))) hsm.2.1 (by omega) (by rw [hz (by omega)] at hf; exact hf) hws2 ha (or_lt _ hb _ hw) hA hAt.1
            rw [← Nat.add_assoc, nI_succ] at this
            rw [or_2 a ha b hb w hw, tl, if_neg (by omega), if_pos hs5, ← Nat.or_assoc]
            exact this
          · have hs5 : s = 4 := eq_n (b := 4) (Decidable.not_not.mp zc66)
            have := ih (i + 1) ws (a ||| w) b S (some (.int (nI w))) (some (.int (nI s))) hsm.2.1 (by omega) (by rw [hz (by omega)] at hf; exact hf) hws2 (or_lt _ ha _ hw) hb hA hAt.1
            rw [← Nat.add_assoc, nI_succ] at this
            rw [or_1 a ha b hb w hw, tl, if_pos hs5, ← Nat.or_assoc]
            exact this
theorem s_toldBy (hr : (r = 30 ∧ q = 33) ∨ (r = 34 ∧ q = 37)) (hB : BkX S 3 B) (hW : WfB B) (hV : WyR S r V) {p w : Nat} (hp : p < 16) (hw : w < 4) : Sp (l, wX, D, ad, cA) 2 m_Ways_toldBy [.ref r, .int (nI p), .int (nI w)] S (tdPost S q (tl (bP B) V (bT B p) [w])) := by
  obtain ⟨st, h1, h2, h3, h4, h5⟩ := bk_ty hB hp
  have h6 : ∀ s ∈ bT B p, s < 6 := by
    intro s hs
    rcases wf_ty hW hp with h | ⟨c, -, h⟩
    · rw [h] at hs; cases hs
    · exact sg6 hW (h.2.2 s hs)
  have hr0 := hr
  have ht : ∀ t : Nat × Nat, ((0 ||| t.1), (0 ||| t.2)) = t := fun t => by simp
  rcases hr with ⟨rfl, rfl⟩ | ⟨rfl, rfl⟩
  · refine Sp.of dk_Ways_toldBy ok_Ways_toldBy rfl (g_c rfl rfl (g_st rfl rfl rfl rfl rfl (g_c rfl rfl (g_st rfl rfl rfl rfl rfl (g_ld rfl rfl rfl (g_gr rfl rfl rfl rfl rfl (g_c rfl rfl (g_ld rfl rfl rfl (g_ast rfl rfl rfl ?_ (g_ld rfl rfl rfl (g_gr rfl rfl rfl rfl rfl (g_ld rfl rfl rfl (g_cv rfl (s_startOf (by decide)) (by omega) rfl rfl rfl rfl rfl rfl rfl rfl rfl (z_k1 (g_st rfl rfl rfl rfl rfl ?_)))))))))))))))
    · exact vp_in_nI (n := 0) (by omega) (by omega)
    · have hA : Ag [33] S (z_ui S 33 (0 : Int32).toNatClampNeg (nI w)) := Ag.rf.ui List.mem_cons_self
      have e1 : f_sta (z_ui S 33 (0 : Int32).toNatClampNeg (nI w)) 3 (nI p) = nI st := by rw [← h1]; unfold f_sta; rw [hA.1 _ (by decide)]
      rw [e1]
      have hAt : At ((z_ui S 33 (0 : Int32).toNatClampNeg (nI w)).1 33) 0 [w].reverse := by
        refine At.cons_iff.mpr ⟨?_, At.nil⟩
        rw [ui_at]; rfl
      rcases wf_ty hW hp with hE | ⟨c, hc, hT⟩
      · have e2 : f_end (z_ui S 33 (0 : Int32).toNatClampNeg (nI w)) 3 (nI p) = nI st := by
          have : nI (st + (bT B p).length) = nI st := by rw [hE]; rfl
          rw [← this, ← h2]; unfold f_end; rw [hA.1 _ (by decide)]
        refine (g_ld rfl rfl rfl (g_ld rfl rfl rfl (g_gr rfl rfl rfl rfl rfl (g_ld rfl rfl rfl (g_cv rfl (s_endOf (by decide)) (by omega) rfl rfl rfl rfl rfl rfl rfl rfl rfl (z_k1 (g_if rfl rfl (fun zc32 => (g_ld rfl rfl rfl (g_ri rfl rfl rfl ?_))) (fun zc32 => (g_ld rfl rfl rfl (g_if rfl rfl (fun zc37 => (g_ld rfl rfl rfl (g_ri rfl rfl rfl ?_))) (fun zc37 => ?_)))))))))))
        · exact ⟨by rw [hE]; rfl, hA⟩
        · exact absurd zc37 (by decide)
        · rw [e2] at zc32; exact absurd (Int32.le_refl _) zc32
      · have := lp_toldBy (l := l) (D := D) (ad := ad) (cA := cA) (w2 := nI w) hr0 hB hW hV h1 h2 h3 h5 h6 (bT B p) 0 [w] 0 0 _ none none rfl (by omega) hT.1 (by simpa using hw) (by omega) (by omega) hA hAt
        rw [ht] at this
        exact this
  · refine Sp.of dk_Ways_toldBy ok_Ways_toldBy rfl (g_c rfl rfl (g_st rfl rfl rfl rfl rfl (g_c rfl rfl (g_st rfl rfl rfl rfl rfl (g_ld rfl rfl rfl (g_gr rfl rfl rfl rfl rfl (g_c rfl rfl (g_ld rfl rfl rfl (g_ast rfl rfl rfl ?_ (g_ld rfl rfl rfl (g_gr rfl rfl rfl rfl rfl (g_ld rfl rfl rfl (g_cv rfl (s_startOf (by decide)) (by omega) rfl rfl rfl rfl rfl rfl rfl rfl rfl (z_k1 (g_st rfl rfl rfl rfl rfl ?_)))))))))))))))
    · exact vp_in_nI (n := 0) (by omega) (by omega)
    · have hA : Ag [37] S (z_ui S 37 (0 : Int32).toNatClampNeg (nI w)) := Ag.rf.ui List.mem_cons_self
      have e1 : f_sta (z_ui S 37 (0 : Int32).toNatClampNeg (nI w)) 3 (nI p) = nI st := by rw [← h1]; unfold f_sta; rw [hA.1 _ (by decide)]
      rw [e1]
      have hAt : At ((z_ui S 37 (0 : Int32).toNatClampNeg (nI w)).1 37) 0 [w].reverse := by
        refine At.cons_iff.mpr ⟨?_, At.nil⟩
        rw [ui_at]; rfl
      rcases wf_ty hW hp with hE | ⟨c, hc, hT⟩
      · have e2 : f_end (z_ui S 37 (0 : Int32).toNatClampNeg (nI w)) 3 (nI p) = nI st := by
          have : nI (st + (bT B p).length) = nI st := by rw [hE]; rfl
          rw [← this, ← h2]; unfold f_end; rw [hA.1 _ (by decide)]
        refine (g_ld rfl rfl rfl (g_ld rfl rfl rfl (g_gr rfl rfl rfl rfl rfl (g_ld rfl rfl rfl (g_cv rfl (s_endOf (by decide)) (by omega) rfl rfl rfl rfl rfl rfl rfl rfl rfl (z_k1 (g_if rfl rfl (fun zc32 => (g_ld rfl rfl rfl (g_ri rfl rfl rfl ?_))) (fun zc32 => (g_ld rfl rfl rfl (g_if rfl rfl (fun zc37 => (g_ld rfl rfl rfl (g_ri rfl rfl rfl ?_))) (fun zc37 => ?_)))))))))))
        · exact ⟨by rw [hE]; rfl, hA⟩
        · exact absurd zc37 (by decide)
        · rw [e2] at zc32; exact absurd (Int32.le_refl _) zc32
      · have := lp_toldBy (l := l) (D := D) (ad := ad) (cA := cA) (w2 := nI w) hr0 hB hW hV h1 h2 h3 h5 h6 (bT B p) 0 [w] 0 0 _ none none rfl (by omega) hT.1 (by simpa using hw) (by omega) (by omega) hA hAt
        rw [ht] at this
        exact this
/-- toldOfClass, goRound, settle -/
def kwn (k : Nat) : Nat := match k with
  | 0 => 1
  | 1 => 2
  | 2 => 3
  | 3 => 0
  | _ => 1
def orp (a b : Nat × Nat) : Nat × Nat := (a.1 ||| b.1, a.2 ||| b.2)
def kdh (kd : Nat → Nat) (h : Nat) : Nat → Nat := fun p => if h / 2 ^ p % 2 = 1 then 3 else kd p
def tcm (B : Bk) (V kd : Nat → Nat) (c : Nat) : Nat → Nat × Nat
  | 0 => tl (bP B) V (bT B (12 + c)) [1]
  | m + 1 => orp (tcm B V kd c m) (tl (bP B) V (bT B (3 * c + m)) [kwn (kd (3 * c + m))])
def tc (B : Bk) (V kd : Nat → Nat) (c : Nat) : Nat × Nat := tcm B V kd c (bM B c)
def Fw (B : Bk) (kd V : Nat → Nat) : Nat → Nat := fun j => if j < 8 then (if j % 2 = 0 then (tc B V kd (j / 2)).1 else (tc B V kd (j / 2)).2) else 0
theorem kwn_lt (k : Nat) : kwn k < 4 := by unfold kwn; split <;> omega
theorem kw_eq : ∀ k, k < 5 → f_kw (nI k) = nI (kwn k) := by decide +kernel
theorem thr_0 (q : Nat) : thr 0 q = 0 := by unfold thr sw; simp
theorem tl_0 {P V : Nat → Nat} : ∀ (l ws : List Nat), (∀ x ∈ ws, x = 0) → tl P V l ws = (0, 0)
  | [], ws, _ => by simp [tl]
  | s :: l, [], _ => by simp [tl]
  | s :: l, w :: ws, h => by
    have hw := h w List.mem_cons_self
    have hws : ∀ x ∈ ws, x = 0 := fun x hx => h x (List.mem_cons_of_mem _ hx)
    subst hw
    rw [tl, tl_0 l ws hws]
    have : tl P V l (aw P V s 0 ++ ws) = (0, 0) := tl_0 l _ (fun x hx => by
      rcases List.mem_append.mp hx with hx | hx
      · obtain ⟨p, -, rfl⟩ := List.mem_map.mp hx
        exact thr_0 _
      · exact hws x hx)
    rw [this]
    simp
theorem tcm_lt {B : Bk} {V kd : Nat → Nat} (hV : ∀ j, V j < 4) (c : Nat) : ∀ m, (tcm B V kd c m).1 < 4 ∧ (tcm B V kd c m).2 < 4
  | 0 => tl_lt hV _ _ (by simp)
  | m + 1 => by
    have h1 := tcm_lt (B := B) (kd := kd) hV c m
    have h2 := tl_lt (P := bP B) hV (bT B (3 * c + m)) [kwn (kd (3 * c + m))] (by simpa using kwn_lt _)
    exact ⟨or_lt _ h1.1 _ h2.1, or_lt _ h1.2 _ h2.2⟩
theorem Fw_lt {B : Bk} {kd V : Nat → Nat} (hV : ∀ j, V j < 4) (j : Nat) : Fw B kd V j < 4 := by
  unfold Fw
  have := tcm_lt (B := B) (kd := kd) hV (j / 2) (bM B (j / 2))
  split
  · split
    · exact this.1
    · exact this.2
  · omega
def KdX (S : zS) (kd : Nat → Nat) : Prop := (∀ p, kd p < 5) ∧ ∀ p, p < 12 → S.1 19 p = nI (kd p)
theorem hid_bit {h p : Nat} (hh : h < 4096) (hp : p < 12) : (nI h >>> (nI p &&& 31)) &&& 1 = nI (h / 2 ^ p % 2) := by
  have hs : ∀ p, p < 12 → ((nI p &&& 31).toBitVec.smod 32).toNat = p := by decide +kernel
  rw [pk_shrN (by omega) _ p (hs p hp)]
  have := pk_andN (n := h / 2 ^ p) (by have := Nat.div_le_self h (2 ^ p); omega) (m := 1) 1 (by decide)
  rw [this]
end
