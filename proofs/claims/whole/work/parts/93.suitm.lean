/-! suits, by lists: what is above a type; depth doesn't matter from the lengths on -/
def upL (B : Bk) (w : List Nat) : List Nat := sub (bT B (12 + ahd w)) (arg (bP B) w 0) (arg (bP B) w 1)
def clL (B : Bk) (gl : Nat) : Nat → List Nat → Option (List Nat)
  | 0, w => some w
  | k + 1, w => if gl < ahd w then (if bT B (12 + ahd w) = [] then none else clL B gl k (upL B w)) else some w
theorem zskip {P : Nat → Nat} : ∀ (as : List Nat) (n : Nat), (∀ s ∈ as, P s = 0) → finb P n as = true → skipL P n as = n
  | as, 0, _, _ => by simp [skipL]
  | [], n + 1, _, h => by simp [finb] at h
  | s :: as, n + 1, hz, h => by
    have h0 := hz s List.mem_cons_self
    rw [finb, h0, Nat.add_zero] at h
    rw [skipL, h0, Nat.add_zero, zskip as n (fun y hy => hz y (List.mem_cons_of_mem _ hy)) h]
    omega
theorem abv_len {B : Bk} {c a : Nat} {as : List Nat} (h : TyOk B c (a :: as)) (hz : ∀ s ∈ as, bP B s = 0) : as.length = bP B a := by
  have h1 := h.1
  have h2 := h.2.1
  rw [finb, Nat.zero_add] at h1
  rw [skipL, Nat.zero_add, List.length_cons, zskip as _ hz h1] at h2
  omega
theorem arg_c0 {B : Bk} {a : Nat} {x r : List Nat} (hx : CT B x) : arg (bP B) (a :: (x ++ r)) 0 = x := by
  have h0 : ∀ l : List Nat, skipL (bP B) 0 l = 0 := fun l => by simp [skipL]
  have : skipL (bP B) 1 (x ++ r) = x.length := by have := (ct_cat hx 0 r).2; rw [h0] at this; exact this
  show ((x ++ r).take (skipL (bP B) 1 (x ++ r))) = x
  rw [this, List.take_left]
theorem arg_c1 {B : Bk} {a : Nat} {x y r : List Nat} (hx : CT B x) (hy : CT B y) : arg (bP B) (a :: (x ++ (y ++ r))) 1 = y := by
  have h0 : ∀ l : List Nat, skipL (bP B) 0 l = 0 := fun l => by simp [skipL]
  have h1 : skipL (bP B) 1 (x ++ (y ++ r)) = x.length := by have := (ct_cat hx 0 (y ++ r)).2; rw [h0] at this; exact this
  have h2 : skipL (bP B) 1 (y ++ r) = y.length := by have := (ct_cat hy 0 r).2; rw [h0] at this; exact this
  show (((x ++ (y ++ r)).drop (skipL (bP B) 1 (x ++ (y ++ r)))).take (skipL (bP B) 1 ((x ++ (y ++ r)).drop (skipL (bP B) 1 (x ++ (y ++ r)))))) = y
  rw [h1, List.drop_left, h2, List.take_left]
theorem ct_one {B : Bk} {s : Nat} (hs : s < bN B) (h0 : bP B s = 0) : CT B [s] := ⟨fun y hy => by rw [List.mem_singleton.mp hy]; exact hs, by rw [finb, h0]; rfl, by rw [skipL, h0]; rfl⟩
/-- what a sign of what is above becomes -/
theorem put_ct {B : Bk} (hW : WfB B) {w : List Nat} (hw : CT B w) {s : Nat} (hs : sgOk B (ahd w) s) (h0 : bP B s = 0) : CT B (put s (arg (bP B) w 0) (arg (bP B) w 1)) := by
  have h4 := hW.1
  unfold put
  rcases hs with g | ⟨e, g⟩ | ⟨e, g⟩
  · rw [if_neg (by omega), if_neg (by omega)]; exact ct_one g h0
  · rw [if_pos e]; exact (arg_pos hW hw g).1
  · rw [if_neg (by omega), if_pos e]; exact (arg_pos hW hw g).1
theorem put_len {f g : List Nat} {s L : Nat} (hf : s = 4 → f.length ≤ L) (hg : s = 5 → g.length ≤ L) (h1 : 1 ≤ L) : (put s f g).length ≤ L := by
  unfold put
  split
  · exact hf (by assumption)
  · split
    · exact hg (by assumption)
    · simpa using h1
theorem up_ok {B : Bk} (hW : WfB B) {w : List Nat} (hw : CT B w) {a : Nat} {as : List Nat} (he : bT B (12 + ahd w) = a :: as) : CT B (upL B w) ∧ ahd (upL B w) = a ∧ a < ahd w ∧ (∀ p, p < bP B a → arg (bP B) (upL B w) p = put (as.getD p 0) (arg (bP B) w 0) (arg (bP B) w 1) ∧ sgOk B (ahd w) (as.getD p 0)) ∧ (∀ L, 1 ≤ L → (∀ p, p < bP B (ahd w) → (arg (bP B) w p).length ≤ L) → (upL B w).length ≤ 1 + 2 * L ∧ ∀ p, p < bP B a → (arg (bP B) (upL B w) p).length ≤ L) := by
  have h4 := hW.1
  obtain ⟨c, r, e1, e2, hc⟩ := hw.ne
  have hab : AbOk B (ahd w) (a :: as) := by
    rcases hW.2.2.2.2.2 (ahd w) (by omega) with g | g
    · rw [he] at g; cases g
    · rw [he] at g; exact g
  obtain ⟨hcn, hty, a', as', e3, hlt, hz⟩ := hab
  cases e3
  have hlen := abv_len hty hz
  have hsg : ∀ s ∈ as, sgOk B (ahd w) s := fun s hs => hty.2.2 s (List.mem_cons_of_mem _ hs)
  have hP2 := hW.2.1 a
  have hct : CT B (upL B w) := by
    obtain ⟨h1, h2, h3⟩ := sub_ok hW (c := ahd w) (f := arg (bP B) w 0) (g := arg (bP B) w 1) (fun h => (arg_pos hW hw h).1) (fun h => (arg_pos hW hw h).1) (a :: as) 1 hty.1 hty.2.1 hty.2.2
    unfold upL
    rw [he]
    exact ⟨h3, h1, h2⟩
  have hput : put a (arg (bP B) w 0) (arg (bP B) w 1) = [a] := by unfold put; rw [if_neg (by omega), if_neg (by omega)]
  have hup : upL B w = a :: sub as (arg (bP B) w 0) (arg (bP B) w 1) := by unfold upL; rw [he, sub, hput]; rfl
  have pl : ∀ (L s : Nat), 1 ≤ L → (∀ p, p < bP B (ahd w) → (arg (bP B) w p).length ≤ L) → sgOk B (ahd w) s → (put s (arg (bP B) w 0) (arg (bP B) w 1)).length ≤ L := fun L s h1 hL hs => put_len (fun e => hL 0 (by rcases hs with g | g | g <;> omega)) (fun e => hL 1 (by rcases hs with g | g | g <;> omega)) h1
  refine ⟨hct, by rw [hup]; rfl, hlt, ?_, ?_⟩
  · intro p hp
    match as, hlen, hz, hsg, hup with
    | [], hlen, _, _, _ => simp at hlen; omega
    | [s0], hlen, hz, hsg, hup =>
      simp at hlen
      have : p = 0 := by omega
      subst this
      have c0 := put_ct hW hw (hsg s0 (by simp)) (hz s0 (by simp))
      rw [hup, sub, sub]
      exact ⟨arg_c0 c0, hsg s0 (by simp)⟩
    | [s0, s1], hlen, hz, hsg, hup =>
      have c0 := put_ct hW hw (hsg s0 (by simp)) (hz s0 (by simp))
      have c1 := put_ct hW hw (hsg s1 (by simp)) (hz s1 (by simp))
      simp at hlen
      rcases (show p = 0 ∨ p = 1 by omega) with e | e
      · subst e
        rw [hup, sub]
        exact ⟨arg_c0 c0, hsg s0 (by simp)⟩
      · subst e
        rw [hup, sub, sub, sub]
        exact ⟨arg_c1 c0 c1, hsg s1 (by simp)⟩
    | s0 :: s1 :: s2 :: _, hlen, _, _, _ => simp at hlen; omega
  · intro L h1 hL
    match as, hlen, hz, hsg, hup with
    | [], hlen, _, _, hup =>
      simp at hlen
      rw [hup]
      refine ⟨by simp [sub], fun p hp => by omega⟩
    | [s0], hlen, hz, hsg, hup =>
      simp at hlen
      have c0 := put_ct hW hw (hsg s0 (by simp)) (hz s0 (by simp))
      have l0 := pl L s0 h1 hL (hsg s0 (by simp))
      rw [hup, sub, sub]
      refine ⟨by simp; omega, fun p hp => ?_⟩
      have : p = 0 := by omega
      subst this
      rw [arg_c0 c0]
      exact l0
    | [s0, s1], hlen, hz, hsg, hup =>
      have c0 := put_ct hW hw (hsg s0 (by simp)) (hz s0 (by simp))
      have c1 := put_ct hW hw (hsg s1 (by simp)) (hz s1 (by simp))
      have l0 := pl L s0 h1 hL (hsg s0 (by simp))
      have l1 := pl L s1 h1 hL (hsg s1 (by simp))
      simp at hlen
      rw [hup, sub, sub, sub]
      refine ⟨by simp; omega, fun p hp => ?_⟩
      rcases (show p = 0 ∨ p = 1 by omega) with e | e
      · subst e
        rw [arg_c0 c0]
        exact l0
      · subst e
        rw [arg_c1 c0 c1]
        exact l1
    | s0 :: s1 :: s2 :: _, hlen, _, _, _ => simp at hlen; omega
/-- the program's climb is the list's -/
theorem clb_clL {B : Bk} (hW : WfB B) {gl : Nat} : ∀ (k c : Nat) (f g w : List Nat), CT B w → ahd w = c → (0 < bP B c → f = arg (bP B) w 0) → (1 < bP B c → g = arg (bP B) w 1) → (clb B gl k c f g = none ∧ clL B gl k w = none) ∨ ∃ c' f' g' w', clb B gl k c f g = some (c', f', g') ∧ clL B gl k w = some w' ∧ CT B w' ∧ ahd w' = c' ∧ (0 < bP B c' → f' = arg (bP B) w' 0) ∧ (1 < bP B c' → g' = arg (bP B) w' 1)
  | 0, c, f, g, w, hw, hc, hf, hg => Or.inr ⟨c, f, g, w, rfl, rfl, hw, hc, hf, hg⟩
  | k + 1, c, f, g, w, hw, hc, hf, hg => by
    rw [clb, clL, hc]
    by_cases h : gl < c
    · rw [if_pos h, if_pos h]
      cases hb : bT B (12 + c) with
      | nil => exact Or.inl ⟨rfl, if_pos rfl⟩
      | cons a as =>
        rw [if_neg (by simp)]
        rw [← hc] at hb
        obtain ⟨u1, u2, u3, u4, -⟩ := up_ok hW hw hb
        have pe : ∀ p, p < bP B a → put (as.getD p 0) f g = arg (bP B) (upL B w) p := fun p hp => by
          obtain ⟨v1, v2⟩ := u4 p hp
          rw [v1]
          have h4 := hW.1
          unfold put
          rcases v2 with q | ⟨q, q2⟩ | ⟨q, q2⟩
          · rw [if_neg (by omega), if_neg (by omega), if_neg (by omega), if_neg (by omega)]
          · rw [if_pos q, if_pos q, hf (by rw [← hc]; exact q2)]
          · rw [if_neg (by omega), if_pos q, if_neg (by omega), if_pos q, hg (by rw [← hc]; exact q2)]
        exact clb_clL hW k a (put (as.getD 0 0) f g) (put (as.getD 1 0) f g) (upL B w) u1 u2 (fun hp => pe 0 hp) (fun hp => pe 1 hp)
    · rw [if_neg h, if_neg h]
      exact Or.inr ⟨c, f, g, w, rfl, rfl, hw, hc, hf, hg⟩
theorem sF_step {B : Bk} {V : Nat → Nat} (hW : WfB B) {d : Nat} {t u : List Nat} (ht : CT B t) : sF B V (d + 1) t u = true ↔ ∃ w, clL B (ahd u) 4 t = some w ∧ CT B w ∧ ahd w = ahd u ∧ ∀ p, p < bP B (ahd u) → (V (2 * ahd u + p) % 2 = 1 → sF B V d (arg (bP B) w p) (arg (bP B) u p) = true) ∧ (V (2 * ahd u + p) / 2 % 2 = 1 → sF B V d (arg (bP B) u p) (arg (bP B) w p) = true) := by
  rw [sF, rF_iff]
  have hP2 := hW.2.1 (ahd u)
  rcases clb_clL hW 4 (ahd t) (arg (bP B) t 0) (arg (bP B) t 1) t ht rfl (fun _ => rfl) (fun _ => rfl) (gl := ahd u) with ⟨e1, e2⟩ | ⟨c', f', g', w', e1, e2, hw, hc, hf, hg⟩
  · rw [e1, e2]
    constructor
    · rintro ⟨q, h, -⟩; cases h
    · rintro ⟨q, h, -⟩; cases h
  · rw [e1, e2]
    constructor
    · rintro ⟨q, h, h1, h2, h3⟩
      cases h
      have h1 : c' = ahd u := h1
      refine ⟨w', rfl, hw, by rw [hc, h1], fun p hp => ?_⟩
      rcases (show p = 0 ∨ p = 1 by omega) with e | e
      · subst e
        have := wF_iff.mp h2 hp
        rw [← hf (by rw [h1]; exact hp)]
        exact this
      · subst e
        have := wF_iff.mp h3 hp
        rw [← hg (by rw [h1]; exact hp)]
        exact this
    · rintro ⟨w, h, -, h1, h2⟩
      cases h
      have h1' : c' = ahd u := by rw [← hc]; exact h1
      refine ⟨(c', f', g'), rfl, h1', wF_iff.mpr (fun hp => ?_), wF_iff.mpr (fun hp => ?_)⟩
      · show (_ → sF B V d f' _ = true) ∧ (_ → sF B V d _ f' = true)
        rw [hf (by rw [h1']; exact hp)]
        exact h2 0 hp
      · show (_ → sF B V d g' _ = true) ∧ (_ → sF B V d _ g' = true)
        rw [hg (by rw [h1']; exact hp)]
        exact h2 1 hp
theorem clL_len {B : Bk} (hW : WfB B) {gl L : Nat} (hL : 1 ≤ L) : ∀ (k : Nat) (t w : List Nat), CT B t → (∀ p, p < bP B (ahd t) → (arg (bP B) t p).length ≤ L) → clL B gl k t = some w → ∀ p, p < bP B (ahd w) → (arg (bP B) w p).length ≤ L
  | 0, t, w, _, h, e => by rw [clL] at e; cases e; exact h
  | k + 1, t, w, ht, h, e => by
    rw [clL] at e
    by_cases g : gl < ahd t
    · rw [if_pos g] at e
      cases hb : bT B (12 + ahd t) with
      | nil => rw [if_pos hb] at e; cases e
      | cons a as =>
        rw [if_neg (by rw [hb]; simp)] at e
        obtain ⟨u1, u2, -, -, u5⟩ := up_ok hW ht hb
        exact clL_len hW hL k (upL B t) w u1 (by rw [u2]; exact (u5 L hL h).2) e
    · rw [if_neg g] at e
      cases e
      exact h
theorem ct_args {B : Bk} (hW : WfB B) {t : List Nat} (ht : CT B t) {M : Nat} (hM : t.length ≤ M + 1) : ∀ p, p < bP B (ahd t) → (arg (bP B) t p).length ≤ M := fun p hp => by
  have := (arg_pos hW ht hp).2.1
  omega
theorem ct_two {B : Bk} (hW : WfB B) {u : List Nat} (hu : CT B u) {p : Nat} (hp : p < bP B (ahd u)) : 2 ≤ u.length := by
  obtain ⟨h1, h2, -⟩ := arg_pos hW hu hp
  obtain ⟨c, r, e, -, -⟩ := h1.ne
  have : 0 < (arg (bP B) u p).length := by rw [e]; simp
  omega
/-- from the lengths on, depth doesn't matter -/
theorem sF_st {B : Bk} {V : Nat → Nat} (hW : WfB B) : ∀ (M d : Nat), M ≤ d → 1 ≤ d → ∀ (t u : List Nat), CT B t → CT B u → t.length ≤ M → u.length ≤ M → (sF B V d t u = true ↔ sF B V (d + 1) t u = true)
  | 0, _, _, _, t, u, ht, _, hl, _ => by
    obtain ⟨c, r, e, -, -⟩ := ht.ne
    rw [e] at hl
    simp at hl
  | M + 1, d, hd, hd1, t, u, ht, hu, htl, hul => by
    obtain ⟨d', rfl⟩ : ∃ d', d = d' + 1 := ⟨d - 1, by omega⟩
    rw [sF_step hW ht, sF_step hW ht]
    have key : ∀ w, clL B (ahd u) 4 t = some w → CT B w → ahd w = ahd u → ∀ p, p < bP B (ahd u) → (sF B V d' (arg (bP B) w p) (arg (bP B) u p) = true ↔ sF B V (d' + 1) (arg (bP B) w p) (arg (bP B) u p) = true) ∧ (sF B V d' (arg (bP B) u p) (arg (bP B) w p) = true ↔ sF B V (d' + 1) (arg (bP B) u p) (arg (bP B) w p) = true) := by
      intro w hcl hw hah p hp
      have h2 := ct_two hW hu hp
      have hM : 1 ≤ M := by omega
      have la := ct_args hW hu hul p hp
      have lw := clL_len hW hM 4 t w ht (ct_args hW ht htl) hcl p (by rw [hah]; exact hp)
      have ca := (arg_pos hW hu hp).1
      have cw := (arg_pos hW hw (p := p) (by rw [hah]; exact hp)).1
      exact ⟨sF_st hW M d' (by omega) (by omega) _ _ cw ca lw la, sF_st hW M d' (by omega) (by omega) _ _ ca cw la lw⟩
    constructor
    · rintro ⟨w, h1, h2, h3, h4⟩
      exact ⟨w, h1, h2, h3, fun p hp => ⟨fun b => ((key w h1 h2 h3 p hp).1).mp ((h4 p hp).1 b), fun b => ((key w h1 h2 h3 p hp).2).mp ((h4 p hp).2 b)⟩⟩
    · rintro ⟨w, h1, h2, h3, h4⟩
      exact ⟨w, h1, h2, h3, fun p hp => ⟨fun b => ((key w h1 h2 h3 p hp).1).mpr ((h4 p hp).1 b), fun b => ((key w h1 h2 h3 p hp).2).mpr ((h4 p hp).2 b)⟩⟩
/-- one step of the program's 'suits', at a depth that is enough -/
theorem sF_16 {B : Bk} {V : Nat → Nat} (hW : WfB B) {t u : List Nat} (ht : CT B t) (hu : CT B u) (htl : t.length ≤ 15) (hul : u.length ≤ 15) : sF B V 16 t u = true ↔ ∃ w, clL B (ahd u) 4 t = some w ∧ CT B w ∧ ahd w = ahd u ∧ ∀ p, p < bP B (ahd u) → (V (2 * ahd u + p) % 2 = 1 → sF B V 16 (arg (bP B) w p) (arg (bP B) u p) = true) ∧ (V (2 * ahd u + p) / 2 % 2 = 1 → sF B V 16 (arg (bP B) u p) (arg (bP B) w p) = true) := by
  rw [sF_st hW 15 16 (by omega) (by omega) t u ht hu htl hul, sF_step hW ht]
