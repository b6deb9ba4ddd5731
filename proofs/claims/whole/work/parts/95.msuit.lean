/-! the reference: isSuiting -/
theorem clL_le {B : Bk} (hW : WfB B) {gl : Nat} : ∀ (k : Nat) (x w : List Nat), CT B x → clL B gl k x = some w → ahd w ≤ ahd x
  | 0, x, w, _, e => by rw [clL] at e; cases e; exact Nat.le_refl _
  | k + 1, x, w, hx, e => by
    rw [clL] at e
    by_cases g : gl < ahd x
    · rw [if_pos g] at e
      cases hb : bT B (12 + ahd x) with
      | nil => rw [if_pos hb] at e; cases e
      | cons a as =>
        rw [if_neg (by rw [hb]; simp)] at e
        obtain ⟨u1, u2, u3, -, -⟩ := up_ok hW hx hb
        have := clL_le hW k (upL B x) w u1 e
        omega
    · rw [if_neg g] at e
      cases e
      exact Nat.le_refl _
def cM : Nat → Nat
  | 0 => 0
  | M + 1 => 4 * (2 * M + 3) + cM M
theorem cM_15 : cM 15 = 1020 := by decide
theorem sbK_mem {P V : Nat → Nat} {w u : List Nat} {c : Nat} : ∀ (k : Nat) (g : List Nat × List Nat), g ∈ sbK P V w u c k ↔ ∃ p, p < k ∧ ((V (2 * c + p) % 2 = 1 ∧ g = (arg P w p, arg P u p)) ∨ (V (2 * c + p) / 2 % 2 = 1 ∧ g = (arg P u p, arg P w p)))
  | 0, g => by simp [sbK]
  | k + 1, g => by
    rw [sbK, List.mem_append, List.mem_append, sbK_mem k g]
    constructor
    · rintro ((⟨p, h1, h2⟩ | h) | h)
      · exact ⟨p, by omega, h2⟩
      · refine ⟨k, by omega, Or.inl ?_⟩
        split at h
        · next hb => exact ⟨hb, List.mem_singleton.mp h⟩
        · cases h
      · refine ⟨k, by omega, Or.inr ?_⟩
        split at h
        · next hb => exact ⟨hb, List.mem_singleton.mp h⟩
        · cases h
    · rintro ⟨p, h1, h2⟩
      by_cases e : p < k
      · exact Or.inl (Or.inl ⟨p, e, h2⟩)
      · have : p = k := by omega
        subst this
        rcases h2 with ⟨hb, hg⟩ | ⟨hb, hg⟩
        · refine Or.inl (Or.inr ?_)
          rw [if_pos hb, hg]; simp
        · refine Or.inr ?_
          rw [if_pos hb, hg]; simp
section
variable {l : Launch} {D : va_G} {ad : Nat → Nat} {cA : ClassId} {x y z w : Int32} {S S' S0 : zS} {m : Mt} {B : Bk} {V : Nat → Nat} {t u v A : List Nat} {n p k r c j s o a b i N st of L n0 : Nat} {x1 x2 : Int32}
theorem lp_climb (hB : BkM S0 B) (hW : WfB B) (hu : CT B u) (hL : 1 ≤ L) {Post : Value → zS → Prop} : ∀ (k : Nat) (w : List Nat) (a n : Nat) (S : zS), CT B w → ahd w < k → k ≤ 4 → (∀ p, p < bP B (ahd w) → (arg (bP B) w p).length ≤ L) → Am [17, 18, 19, 20] [27, 31] S0 S → S.1 0 27 = nI n → At (S.1 17) a w → a + w.length ≤ n → At (S.1 17) b u → b + u.length ≤ n → n + k * (1 + 2 * L) ≤ 4000 → (∀ (w' : List Nat) (a' n' : Nat) (T : zS), clL B (ahd u) k w = some w' → CT B w' → ahd w' = ahd u → Am [17] [27] S T → T.1 0 27 = nI n' → At (T.1 17) a' w' → a' + w'.length ≤ n' → n ≤ n' → n' ≤ n + k * (1 + 2 * L) → (∀ j, j < n → T.1 17 j = S.1 17 j) → Go (l, wM, D, ad, cA) 2 m_M_isSuiting Post 133 [some (.ref 0), some (.int x1), some (.int x2), some (.int (nI a')), some (.int (nI b))] [] T) → ((¬ ∃ w', clL B (ahd u) k w = some w' ∧ CT B w' ∧ ahd w' = ahd u) → ∀ T, Am [17, 18, 19, 20] [27, 31] S0 T → Post (.int 0) T) → Go (l, wM, D, ad, cA) 2 m_M_isSuiting Post 62 [some (.ref 0), some (.int x1), some (.int x2), some (.int (nI a)), some (.int (nI b))] [] S
  | 0, w, a, n, S, _, h, _, _, _, _, _, _, _, _, _, _, _ => absurd h (Nat.not_lt_zero _)
  | k + 1, w, a, n, S, hw, hk, hk4, hal, hA, h27, h1, ha, h2, hb, hn, Ks, Kf => by
    have h4 := hW.1
    obtain ⟨c, wr, e1, e2, hc⟩ := hw.ne
    obtain ⟨g, ur, e3, e4', hg⟩ := hu.ne
    have lw : 0 < w.length := by rw [e1]; simp
    have lu : 0 < u.length := by rw [e3]; simp
    have ra : S.1 17 (nI a).toNatClampNeg = nI (ahd w) := by
      rw [nI_clamp (by omega)]
      have := h1 0 lw
      rw [Nat.add_zero] at this
      rw [this, e1]; rfl
    have rb : S.1 17 (nI b).toNatClampNeg = nI (ahd u) := by
      rw [nI_clamp (by omega)]
      have := h2 0 lu
      rw [Nat.add_zero] at this
      rw [this, e3]; rfl
    have ina : vp_in (nI a) 4000 := vp_in_nI (by omega) (by decide)
    have inb : vp_in (nI b) 4000 := vp_in_nI (by omega) (by decide)
    have hB2 : BkM S B := hB.am hA
    have go115 : Go (l, wM, D, ad, cA) 2 m_M_isSuiting Post 115 [some (.ref 0), some (.int x1), some (.int x2), some (.int (nI a)), some (.int (nI b))] [] S ∨ True := Or.inr trivial
    by_cases heq : ahd w = ahd u
    · have hcl : clL B (ahd u) (k + 1) w = some w := by rw [clL, if_neg (by omega)]
      refine (g_ld rfl rfl rfl (g_gr rfl rfl rfl rfl rfl (g_ld rfl rfl rfl (g_ald rfl rfl rfl ?_ (g_ld rfl rfl rfl (g_gr rfl rfl rfl rfl rfl (g_ld rfl rfl rfl (g_ald rfl rfl rfl ?_ (g_if rfl rfl (fun zc75 => ?_) (fun zc75 => ?_))))))))))
      · exact ina
      · exact inb
      · refine (g_ld rfl rfl rfl (g_gr rfl rfl rfl rfl rfl (g_ld rfl rfl rfl (g_ald rfl rfl rfl ?_ (g_ld rfl rfl rfl (g_gr rfl rfl rfl rfl rfl (g_ld rfl rfl rfl (g_ald rfl rfl rfl ?_ (g_if rfl rfl (fun zc128 => ?_) (fun zc128 => (g_c rfl rfl (g_ri rfl rfl rfl ?_))))))))))))
        · exact ina
        · exact inb
        · exact Ks w a n S hcl hw heq Am.rf h27 h1 ha (Nat.le_refl _) (by omega) (fun _ _ => rfl)
        · rw [ra, rb, heq] at zc128
          exact absurd rfl zc128
      · rw [ra, rb, heq] at zc75
        exact absurd rfl zc75
    · have hne : ¬ nI (ahd w) = nI (ahd u) := fun q => heq (eq_n q)
      cases hT : bT B (12 + ahd w) with
      | nil =>
        have hno : ¬ ∃ w', clL B (ahd u) (k + 1) w = some w' ∧ CT B w' ∧ ahd w' = ahd u := by
          rintro ⟨w', q1, -, q3⟩
          rw [clL] at q1
          by_cases hg : ahd u < ahd w
          · rw [if_pos hg, if_pos hT] at q1; cases q1
          · rw [if_neg hg] at q1; cases q1; exact heq q3
        have hab : abI B (ahd w) = -1 := by unfold abI; rw [hT]
        have r7 : S.1 7 (nI (ahd w)).toNatClampNeg = -1 := by rw [nI_clamp (by omega), hB2.2.2.2.1 _ (by omega)]; exact hab
        refine (g_ld rfl rfl rfl (g_gr rfl rfl rfl rfl rfl (g_ld rfl rfl rfl (g_ald rfl rfl rfl ?_ (g_ld rfl rfl rfl (g_gr rfl rfl rfl rfl rfl (g_ld rfl rfl rfl (g_ald rfl rfl rfl ?_ (g_if rfl rfl (fun zc75 => ?_) (fun zc75 => (g_ld rfl rfl rfl (g_gr rfl rfl rfl rfl rfl (g_ld rfl rfl rfl (g_gr rfl rfl rfl rfl rfl (g_ld rfl rfl rfl (g_ald rfl rfl rfl ?_ (g_ald rfl rfl rfl ?_ (g_c rfl rfl (g_if rfl rfl (fun zc90 => ?_) (fun zc90 => ?_))))))))))))))))))))
        · exact ina
        · exact inb
        · rw [ra, rb] at zc75
          exact absurd zc75 hne
        · exact ina
        · rw [ra]; exact vp_in_nI (show ahd w < 4 by omega) (by decide)
        · refine (g_ld rfl rfl rfl (g_gr rfl rfl rfl rfl rfl (g_ld rfl rfl rfl (g_ald rfl rfl rfl ?_ (g_ld rfl rfl rfl (g_gr rfl rfl rfl rfl rfl (g_ld rfl rfl rfl (g_ald rfl rfl rfl ?_ (g_if rfl rfl (fun zc128 => ?_) (fun zc128 => (g_c rfl rfl (g_ri rfl rfl rfl ?_))))))))))))
          · exact ina
          · exact inb
          · rw [ra, rb] at zc128
            exact absurd zc128 hne
          · exact Kf hno S hA
        · rw [ra, r7] at zc90
          exact absurd rfl zc90
      | cons b0 bs =>
        obtain ⟨u1, u2, u3, -, u5⟩ := up_ok hW hw hT
        obtain ⟨ul, ual⟩ := u5 L hL hal
        have hab : abI B (ahd w) = nI b0 := by unfold abI; rw [hT]
        have hb0 : nI b0 ≠ -1 := by
          have : ∀ b, b < 4 → nI b ≠ -1 := by decide
          exact this b0 (by omega)
        have r7 : S.1 7 (nI (ahd w)).toNatClampNeg = nI b0 := by rw [nI_clamp (by omega), hB2.2.2.2.1 _ (by omega)]; exact hab
        have hneT : bT B (12 + ahd w) ≠ [] := by rw [hT]; simp
        have hty : TyOk B (ahd w) (bT B (12 + ahd w)) := by
          rcases hW.2.2.2.2.2 (ahd w) (by omega) with q | q
          · exact absurd q hneT
          · exact q.2.1
        obtain ⟨st, t1, t2, t3⟩ := hB2.2.2.2.2.1 (ahd w) (by omega) hneT
        have rst : S.1 9 (4 * nI (ahd w)).toNatClampNeg = nI st := by rw [show (4 : Int32) = nI 4 from rfl, pk_mul, nI_clamp (by omega)]; exact t1
        have hmul : (k + 1) * (1 + 2 * L) = k * (1 + 2 * L) + (1 + 2 * L) := Nat.succ_mul k _
        refine (g_ld rfl rfl rfl (g_gr rfl rfl rfl rfl rfl (g_ld rfl rfl rfl (g_ald rfl rfl rfl ?_ (g_ld rfl rfl rfl (g_gr rfl rfl rfl rfl rfl (g_ld rfl rfl rfl (g_ald rfl rfl rfl ?_ (g_if rfl rfl (fun zc75 => ?_) (fun zc75 => (g_ld rfl rfl rfl (g_gr rfl rfl rfl rfl rfl (g_ld rfl rfl rfl (g_gr rfl rfl rfl rfl rfl (g_ld rfl rfl rfl (g_ald rfl rfl rfl ?_ (g_ald rfl rfl rfl ?_ (g_c rfl rfl (g_if rfl rfl (fun zc90 => ?_) (fun zc90 => ?_))))))))))))))))))))
        · exact ina
        · exact inb
        · rw [ra, rb] at zc75
          exact absurd zc75 hne
        · exact ina
        · rw [ra]; exact vp_in_nI (show ahd w < 4 by omega) (by decide)
        · rw [ra, r7] at zc90
          exact absurd zc90 hb0
        · refine (g_ld rfl rfl rfl (g_ld rfl rfl rfl (g_gr rfl rfl rfl rfl rfl (g_c rfl rfl (g_ld rfl rfl rfl (g_gr rfl rfl rfl rfl rfl (g_ld rfl rfl rfl (g_ald rfl rfl rfl ina ?_))))))))
          rw [ra]
          refine (g_bin rfl rfl (g_ald rfl rfl rfl ?_ (g_ld rfl rfl rfl ?_)))
          · rw [show (4 : Int32) = nI 4 from rfl, pk_mul]; exact vp_in_nI (show 4 * ahd w < 16 by omega) (by decide)
          · refine (g_cv rfl (s_addPut (n := n) (of := a) (u := w) (st := st) hB2 hW hw h1 ha t2 t3 hty h27 (by show n + (upL B w).length ≤ 4000; omega) rst rfl) (by omega) rfl rfl rfl rfl rfl rfl rfl rfl rfl (fun zv108 zS108 zh108 => ?_))
            obtain ⟨rfl, hA2, q27, qlow, qAt⟩ := zh108
            have q27 : zS108.1 0 27 = nI (n + (upL B w).length) := q27
            have qAt : At (zS108.1 17) n (upL B w) := qAt
            refine (g_st rfl rfl rfl rfl rfl (g_go rfl ?_))
            refine lp_climb hB hW hu hL k (upL B w) n (n + (upL B w).length) zS108 u1 (by omega) (by omega) (by rw [u2]; exact ual) (hA.tr (hA2.mono (by simp) (by simp))) q27 qAt (Nat.le_refl _) (h2.congr (fun j hj => qlow _ (by omega))) (by omega) (by omega) (fun w' a' n' T k1 k2 k3 k4 k5 k6 k7 k8 k9 k10 => ?_) (fun hno T hTA => ?_)
            · have hgl : ahd u < ahd w := by
                have := clL_le hW k (upL B w) w' u1 k1
                omega
              refine Ks w' a' n' T (by rw [clL, if_pos hgl, if_neg hneT]; exact k1) k2 k3 (hA2.tr k4) k5 k6 k7 (by omega) (by omega) (fun j hj => by rw [k10 j (by omega), qlow j hj])
            · refine Kf (fun hex => hno ?_) T hTA
              obtain ⟨w', q1, q2, q3⟩ := hex
              rw [clL] at q1
              by_cases hg : ahd u < ahd w
              · rw [if_pos hg, if_neg hneT] at q1
                exact ⟨w', q1, q2, q3⟩
              · rw [if_neg hg] at q1; cases q1; exact absurd q3 heq
end
