/-! draws -/
def nx (s : Nat) : Nat := (1103515245 * s + 12345) % 2147483648
theorem nx_lt (s : Nat) : nx s < 2147483648 := Nat.mod_lt _ (by decide)
theorem ho_D : ∀ j, j ≠ 3 → wX.2.2.1 42 j ≠ some none
  | 0, _ => by decide
  | 1, _ => by decide
  | 2, _ => by decide
  | 3, h => absurd rfl h
  | n + 4, _ => by show ([some (some 3), some (some 40), some (some 43), some none] : List (Option (Option Nat))).getD (n + 4) none ≠ some none; simp
def Al (ks : List Nat) (S S' : zS) : Prop := ∀ k, k ∉ ks → S'.1 k = S.1 k
theorem Al.rf {ks : List Nat} {S : zS} : Al ks S S := fun _ _ => rfl
theorem Al.tr {ks : List Nat} {S T U : zS} (h1 : Al ks S T) (h2 : Al ks T U) : Al ks S U := fun k hk => (h2 k hk).trans (h1 k hk)
theorem Al.uf {ks : List Nat} {S T : zS} {q : Nat} {f : Nat → Int32} (h : Al ks S T) (hq : q ∈ ks) : Al ks S (z_uf T q f) := fun k hk => (uf_ne (k := k) (q := q) (fun e => hk (by rw [e]; exact hq))).trans (h k hk)
theorem Al.ui {ks : List Nat} {S T : zS} {q i : Nat} {x : Int32} (h : Al ks S T) (hq : q ∈ ks) : Al ks S (z_ui T q i x) := Al.uf h hq
theorem Al.ul {ks : List Nat} {S T : zS} {q : Nat} {x : Int64} (h : Al ks S T) : Al ks S (z_ul T q x) := h
theorem Ag.al {ks : List Nat} {S T : zS} (h : Ag ks S T) : Al ks S T := h.1
theorem Al.mono {ks ks' : List Nat} {S T : zS} (h : Al ks S T) (hk : ∀ k, k ∈ ks → k ∈ ks') : Al ks' S T := fun k h2 => h k (fun h3 => h2 (hk k h3))
section
variable {l : Launch} {D : va_G} {ad : Nat → Nat} {cA : ClassId} {d r q n : Nat} {x z : Int32} {S S0 : zS} {B : Bk} {V kd : Nat → Nat} {sl : Nat → List Nat}
theorem nx_eq {s : Nat} (hs : s < 2147483648) : (1103515245 * lN s + 12345) - (1103515245 * lN s + 12345) / 2147483648 * 2147483648 = lN (nx s) := by
  have e : (1103515245 : Int64) * lN s + 12345 = lN (1103515245 * s + 12345) := by
    rw [show (1103515245 : Int64) = lN 1103515245 from rfl, show (12345 : Int64) = lN 12345 from rfl, lN_mul, lN_add]
  rw [e, show (2147483648 : Int64) = lN 2147483648 from rfl]
  exact pk_lRem (by omega) (by omega) (by omega)
theorem s_draw {s k : Nat} (hs : s < 2147483648) (hS : S.2 42 = lN s) (hk : 0 < k) (hk2 : k < 2 ^ 31) (hx : x = nI k) : Sp (l, wX, D, ad, cA) 0 m_Draws_draw [.ref 42, .int x] S (fun v S' => v = .int (nI (nx s / 65536 % k)) ∧ S' = z_ul S 42 (lN (nx s))) := by
  subst hx
  have e1 : (1103515245 * S.2 42 + 12345) - (1103515245 * S.2 42 + 12345) / 2147483648 * 2147483648 = lN (nx s) := by rw [hS]; exact nx_eq hs
  have hn := nx_lt s
  refine Sp.of dk_Draws_draw ok_Draws_draw rfl (g_ld rfl rfl rfl (g_c rfl rfl (g_ld rfl rfl rfl (g_gl rfl rfl rfl rfl rfl (g_bin rfl rfl (g_c rfl rfl (g_bin rfl rfl (g_c rfl rfl (g_lrem rfl (by decide) (g_pl rfl rfl rfl rfl rfl rfl rfl ho_D (g_ld rfl rfl rfl (g_if rfl rfl (fun zc21 => (g_c rfl rfl (g_ri rfl rfl rfl ?_))) (fun zc21 => (g_ld rfl rfl rfl (g_gl rfl rfl rfl rfl rfl (g_c rfl rfl (g_ldiv rfl (by decide) (g_ld rfl rfl rfl (g_un rfl rfl (g_lrem rfl ?_ (g_un rfl rfl (g_go rfl (g_ri rfl rfl rfl ?_)))))))))))))))))))))))
  · exact absurd zc21 (nI_nle hk hk2)
  · rw [nI_l hk2]
    intro q
    have := (pk_lEQ (a := k) (b := 0) (by omega) (by omega)).mp q
    omega
  · rw [e1, nI_l hk2]
    have e2 : (z_ul S 42 (lN (nx s))).2 42 = lN (nx s) := by simp [z_ul]
    rw [e2, show (65536 : Int64) = lN 65536 from rfl, pk_lDiv (by omega) (by omega) (by omega), pk_lRem (by omega) hk (by omega), lN_i]
    exact ⟨rfl, rfl⟩
/-! plain ones -/
def isP (B : Bk) (k : Nat) : Bool := decide (bP B k = 0)
def pls (B : Bk) : List Nat := (List.range' 0 (bN B)).filter (isP B)
theorem pl_at (hB : BkX S 3 B) (hW : WfB B) {k : Nat} (hk : k < 4) : f_pl S k = if isP B k = true then 1 else 0 := by
  unfold f_pl isP
  rw [bk_par hB hW (by omega)]
  by_cases h : bP B k = 0
  · rw [if_pos (by rw [h]; rfl), if_pos (by simpa using h)]
  · rw [if_neg (fun e : nI (bP B k) = 0 => h (eq_n (b := 0) e (by have := hW.2.1 k; omega))), if_neg (by simpa using h)]
theorem pl_sum (hB : BkX S 3 B) (hW : WfB B) : ∀ m, m ≤ 4 → sumF (f_pl S) m = nI ((List.range' 0 m).filter (isP B)).length
  | 0, _ => rfl
  | m + 1, h => by
    rw [sumF, pl_sum hB hW m (by omega), pl_at hB hW (by omega), List.range'_concat, List.filter_append]
    by_cases hp : isP B m = true
    · rw [if_pos hp]
      simp [hp, ← nI_succ]
    · rw [if_neg hp]
      simp [hp]
theorem plc_eq (hB : BkX S 3 B) (hW : WfB B) : ∀ (k i o : Nat), i + k ≤ 4 → o < 2 ^ 30 → f_plc S k i (nI o) = nI (((List.range' i k).filter (isP B)).getD o 0)
  | 0, i, o, _, _ => rfl
  | k + 1, i, o, h, ho => by
    have hpi : (f_par S 3 (nI i) = 0) ↔ isP B i = true := by
      unfold isP
      rw [bk_par hB hW (by omega)]
      have := hW.2.1 i
      constructor
      · intro e; simpa using eq_n (b := 0) e
      · intro e; rw [show bP B i = 0 by simpa using e]; rfl
    rw [f_plc, List.range'_succ]
    by_cases hp : isP B i = true
    · rw [if_pos (hpi.mpr hp), List.filter_cons_of_pos hp]
      cases o with
      | zero => rw [if_pos nI_0]; rfl
      | succ o =>
        rw [if_neg (fun e => by have := eq_n (b := 0) e; omega), pk_m1, plc_eq hB hW k (i + 1) o (by omega) (by omega)]
        rfl
    · rw [if_neg (fun e => hp (hpi.mp e)), List.filter_cons_of_neg hp]
      exact plc_eq hB hW k (i + 1) o (by omega) ho
theorem pls_mem {y : Nat} (h : y ∈ pls B) : y < bN B ∧ bP B y = 0 := by
  obtain ⟨h1, h2⟩ := List.mem_filter.mp h
  refine ⟨?_, by simpa [isP] using h2⟩
  have := List.mem_range'.mp h1
  omega
def dPl (B : Bk) : Nat → Nat → List Nat × Nat
  | 0, s => ([], s)
  | m + 1, s => ((pls B).getD (nx s / 65536 % (pls B).length) 0 :: (dPl B m (nx s)).1, (dPl B m (nx s)).2)
def dC (B : Bk) (s : Nat) : Nat := nx s / 65536 % bN B
def dArg (B : Bk) (s : Nat) : List Nat × Nat := (dC B s :: (dPl B (bP B (dC B s)) (nx s)).1, (dPl B (bP B (dC B s)) (nx s)).2)
def dArgs (B : Bk) : Nat → Nat → List Nat × Nat
  | 0, s => ([], s)
  | m + 1, s => ((dArg B s).1 ++ (dArgs B m (dArg B s).2).1, (dArgs B m (dArg B s).2).2)
def dTy (B : Bk) (s : Nat) : List Nat × Nat := (dC B s :: (dArgs B (bP B (dC B s)) (nx s)).1, (dArgs B (bP B (dC B s)) (nx s)).2)
theorem dPl_sp {B : Bk} : ∀ (m s : Nat), s < 2147483648 → (dPl B m s).1.length = m ∧ (dPl B m s).2 < 2147483648
  | 0, s, h => ⟨rfl, h⟩
  | m + 1, s, h => by
    have := dPl_sp (B := B) m (nx s) (nx_lt s)
    rw [dPl]
    exact ⟨by simp [this.1], this.2⟩
end
