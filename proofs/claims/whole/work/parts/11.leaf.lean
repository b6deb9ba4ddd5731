/-! leaves: rows, page, slots, ways -/
theorem uf_uf {S : zS} {q : Nat} {g h : Nat → Int32} : z_uf (z_uf S q g) q h = z_uf S q h := by
  unfold z_uf
  congr 1
  funext i
  by_cases hi : i = q
  · simp [hi]
  · simp [hi]
theorem uf_at {S : zS} {q : Nat} {g : Nat → Int32} : (z_uf S q g).1 q = g := by simp [z_uf]
theorem uf_ne {S : zS} {q k : Nat} {g : Nat → Int32} (h : k ≠ q) : (z_uf S q g).1 k = S.1 k := by simp [z_uf, h]
theorem ui_uf {S : zS} {q i : Nat} {g : Nat → Int32} {x : Int32} : z_ui (z_uf S q g) q i x = z_uf S q (upd g i x) := by
  unfold z_ui
  rw [uf_at, uf_uf]
theorem ui_ne {S : zS} {q k i : Nat} {x : Int32} (h : k ≠ q) : (z_ui S q i x).1 k = S.1 k := uf_ne h
theorem ui_at {S : zS} {q i : Nat} {x : Int32} : (z_ui S q i x).1 q = upd (S.1 q) i x := uf_at
theorem uf_id {S : zS} {q : Nat} : z_uf S q (S.1 q) = S := by
  unfold z_uf
  have : (fun i => if i = q then S.1 q else S.1 i) = S.1 := by
    funext i
    by_cases hi : i = q
    · simp [hi]
    · simp [hi]
  rw [this]
def fillF (f : Nat → Int32) (n : Nat) (x : Int32) : Nat → Int32 := fun j => if j < n then x else f j
theorem fillF_0 {f : Nat → Int32} {x : Int32} : fillF f 0 x = f := by funext j; simp [fillF]
theorem fillF_s {f : Nat → Int32} {n : Nat} {x : Int32} : upd (fillF f n x) n x = fillF f (n + 1) x := by
  funext j
  unfold upd fillF
  by_cases h : j = n
  · rw [if_pos h, if_pos (by omega)]
  · rw [if_neg h]
    by_cases h2 : j < n
    · rw [if_pos h2, if_pos (by omega)]
    · rw [if_neg h2, if_neg (by omega)]
section
variable {l : Launch} {D : va_G} {ad : Nat → Nat} {cA : ClassId} {d r q : Nat} {x z : Int32} {S : zS}
theorem fill_loop {X : zX} {N : Nat} (hq : Nat.blt q X.2.1.1 = true) (hN : X.2.1.2.1 q = .inr N) (hN2 : N < 2 ^ 31) : ∀ n i, i + n = N → Go X 0 m_JA_fill (fun v S' => v = .null ∧ S' = z_uf S q (fillF (S.1 q) N x)) 5 [some (.ref q), some (.int x), some (.int (nI i)), some (.int (nI N))] [] (z_uf S q (fillF (S.1 q) i x)) := by
  intro n
  induction n with
  | zero =>
    intro i hi
    refine (g_ld rfl rfl rfl (g_ld rfl rfl rfl (g_if rfl rfl (fun zc7 => (g_rv rfl rfl ?_)) (fun zc7 => ?_))))
    · rw [show i = N by omega]; exact ⟨rfl, rfl⟩
    · exact absurd (nI_le (show N ≤ i by omega) (by omega)) zc7
  | succ n ih =>
    intro i hi
    refine (g_ld rfl rfl rfl (g_ld rfl rfl rfl (g_if rfl rfl (fun zc7 => ?_) (fun zc7 => (g_ld rfl rfl rfl (g_ld rfl rfl rfl (g_ld rfl rfl rfl (g_ast rfl hq hN ?_ (g_inc rfl rfl rfl rfl (g_go rfl ?_))))))))))
    · exact absurd zc7 (nI_ge (by omega) hN2)
    · exact vp_in_nI (by omega) hN2
    · rw [nI_clamp (by omega), ui_uf, fillF_s]
      have e : nI i + 1 = nI (i + 1) := (nI_succ i).symm
      rw [e]
      exact ih (i + 1) (by omega)
theorem s_fill {X : zX} {N : Nat} (hq : Nat.blt q X.2.1.1 = true) (hN : X.2.1.2.1 q = .inr N) (hN2 : N < 2 ^ 31) : Sp X 0 m_JA_fill [.ref q, .int x] S (fun v S' => v = .null ∧ S' = z_uf S q (fillF (S.1 q) N x)) := by
  refine Sp.of dk_JA_fill ok_JA_fill rfl (g_c rfl rfl (g_st rfl rfl rfl rfl rfl (g_ld rfl rfl rfl (g_len rfl hq hN (g_st rfl rfl rfl rfl rfl ?_)))))
  have h := fill_loop (S := S) (x := x) hq hN hN2 N 0 (by omega)
  rw [fillF_0, uf_id] at h
  exact h
theorem s_placeOf {X : zX} : Sp X 0 m_SB_placeOf [.int x, .int z] S (fun v S' => v = .int (3 * x + z) ∧ S' = S) := by
  refine Sp.of dk_SB_placeOf ok_SB_placeOf rfl (g_c rfl rfl (g_ld rfl rfl rfl (g_bin rfl rfl (g_ld rfl rfl rfl (g_bin rfl rfl (g_ri rfl rfl rfl ?_))))))
  exact ⟨rfl, rfl⟩
theorem s_isSlot {X : zX} : Sp X 0 m_SB_isSlot [.int x] S (fun v S' => v = .int (b2 (0 ≤ x ∧ x < 8)) ∧ S' = S) := by
  refine Sp.of dk_SB_isSlot ok_SB_isSlot rfl (g_ld rfl rfl rfl (g_if rfl rfl (fun zc1 => (g_c rfl rfl (g_ri rfl rfl rfl ?_))) (fun zc1 => (g_ld rfl rfl rfl (g_c rfl rfl (g_if rfl rfl (fun zc7 => (g_c rfl rfl (g_ri rfl rfl rfl ?_))) (fun zc7 => (g_c rfl rfl (g_go rfl (g_ri rfl rfl rfl ?_))))))))))
  · exact v_int (b2_f (fun h => absurd h.1 (i_ng zc1))).symm rfl
  · exact v_int (b2_f (fun h => absurd h.2 (i_nl zc7))).symm rfl
  · exact v_int (b2_t ⟨i_ge zc1, i_gt zc7⟩).symm rfl
def f_kw (x : Int32) : Int32 := if 0 ≤ x ∧ x < 5 then kwT x.toNatClampNeg else 0
theorem s_kindWays : Sp (l, wX, D, ad, cA) 0 m_SB_kindWays [.int x] S (fun v S' => v = .int (f_kw x) ∧ S' = S) := by
  refine Sp.of dk_SB_kindWays ok_SB_kindWays rfl (g_ld rfl rfl rfl (g_if rfl rfl (fun zc1 => (g_c rfl rfl (g_ri rfl rfl rfl ?_))) (fun zc1 => (g_ld rfl rfl rfl (g_gs rfl rfl rfl (g_tlen rfl rfl (g_if rfl rfl (fun zc9 => (g_c rfl rfl (g_ri rfl rfl rfl ?_))) (fun zc9 => (g_gs rfl rfl rfl (g_ld rfl rfl rfl (g_tld rfl rfl ?_ (g_go rfl (g_ri rfl rfl rfl ?_)))))))))))))
  · exact v_int (if_neg (fun h => absurd h.1 (i_ng zc1))).symm rfl
  · exact v_int (if_neg (fun h => absurd h.2 (i_nl zc9))).symm rfl
  · exact t_in (i_ge zc1) (i_gt zc9)
  · exact v_int (if_pos ⟨i_ge zc1, i_gt zc9⟩).symm rfl
theorem s_putIn {X : zX} {w : Int32} : Sp X 0 m_Fit_putIn [.int w, .int x, .int z] S (fun v S' => v = .int (if w = 4 then x else if w = 5 then z else w) ∧ S' = S) := by
  refine Sp.of dk_Fit_putIn ok_Fit_putIn rfl (g_ld rfl rfl rfl (g_c rfl rfl (g_if rfl rfl (fun zc2 => (g_ld rfl rfl rfl (g_c rfl rfl (g_if rfl rfl (fun zc9 => (g_ld rfl rfl rfl (g_ri rfl rfl rfl ?_))) (fun zc9 => (g_ld rfl rfl rfl (g_go rfl (g_ri rfl rfl rfl ?_)))))))) (fun zc2 => (g_ld rfl rfl rfl (g_ri rfl rfl rfl ?_))))))
  · exact v_int (by rw [if_neg zc2, if_neg zc9]) rfl
  · exact v_int (by rw [if_neg zc2, if_pos (Decidable.not_not.mp zc9)]) rfl
  · exact v_int (by rw [if_pos (Decidable.not_not.mp zc2)]) rfl
theorem s_through {X : zX} : Sp X 0 m_Ways_through [.int x, .int z] S (fun v S' => v = .int ((if z &&& 1 = 0 then (0 : Int32) else x) ||| (if z &&& 2 = 0 then (0 : Int32) else ((x &&& 1) <<< (1 &&& 31) ||| (x &&& 2) >>> (1 &&& 31)))) ∧ S' = S) := by
  refine Sp.of dk_Ways_through ok_Ways_through rfl (g_ld rfl rfl rfl (g_c rfl rfl (g_bin rfl rfl (g_c rfl rfl (g_bin rfl rfl (g_ld rfl rfl rfl (g_c rfl rfl (g_bin rfl rfl (g_c rfl rfl (g_bin rfl rfl (g_bin rfl rfl (g_st rfl rfl rfl rfl rfl (g_ld rfl rfl rfl (g_c rfl rfl (g_bin rfl rfl (g_if rfl rfl (fun zc15 => (g_c rfl rfl (g_ld rfl rfl rfl (g_c rfl rfl (g_bin rfl rfl (g_if rfl rfl (fun zc26 => (g_c rfl rfl (g_bin rfl rfl (g_ri rfl rfl rfl ?_)))) (fun zc26 => (g_ld rfl rfl rfl (g_go rfl (g_bin rfl rfl (g_ri rfl rfl rfl ?_))))))))))) (fun zc15 => (g_ld rfl rfl rfl (g_go rfl (g_ld rfl rfl rfl (g_c rfl rfl (g_bin rfl rfl (g_if rfl rfl (fun zc26 => (g_c rfl rfl (g_bin rfl rfl (g_ri rfl rfl rfl ?_)))) (fun zc26 => (g_ld rfl rfl rfl (g_go rfl (g_bin rfl rfl (g_ri rfl rfl rfl ?_))))))))))))))))))))))))))))
  · exact v_int (by rw [if_pos zc15, if_pos zc26]) rfl
  · exact v_int (by rw [if_pos zc15, if_neg zc26]) rfl
  · exact v_int (by rw [if_neg zc15, if_pos zc26]) rfl
  · exact v_int (by rw [if_neg zc15, if_neg zc26]) rfl
theorem s_isOfKind {X : zX} : Sp X 0 m_SB_isOfKind [.int x, .int z] S (fun v S' => v = .int (b2 (z = x ∨ z = 0 ∨ (z = 2 ∧ x = 4))) ∧ S' = S) := by
  refine Sp.of dk_SB_isOfKind ok_SB_isOfKind rfl (g_ld rfl rfl rfl (g_ld rfl rfl rfl (g_if rfl rfl (fun zc2 => (g_c rfl rfl (g_go rfl (g_ri rfl rfl rfl ?_)))) (fun zc2 => (g_ld rfl rfl rfl (g_if rfl rfl (fun zc6 => (g_c rfl rfl (g_go rfl (g_ri rfl rfl rfl ?_)))) (fun zc6 => (g_ld rfl rfl rfl (g_c rfl rfl (g_if rfl rfl (fun zc11 => (g_c rfl rfl (g_ri rfl rfl rfl ?_))) (fun zc11 => (g_ld rfl rfl rfl (g_c rfl rfl (g_if rfl rfl (fun zc16 => (g_c rfl rfl (g_ri rfl rfl rfl ?_))) (fun zc16 => (g_c rfl rfl (g_go rfl (g_ri rfl rfl rfl ?_))))))))))))))))))
  · exact v_int (b2_t (Or.inl zc2)).symm rfl
  · exact v_int (b2_t (Or.inr (Or.inl zc6))).symm rfl
  · exact v_int (b2_f (fun h => h.elim zc2 (fun h => h.elim zc6 (fun h => zc11 h.1)))).symm rfl
  · exact v_int (b2_f (fun h => h.elim zc2 (fun h => h.elim zc6 (fun h => zc16 h.2)))).symm rfl
  · exact v_int (b2_t (Or.inr (Or.inr ⟨Decidable.not_not.mp zc11, Decidable.not_not.mp zc16⟩))).symm rfl
/-! the page: cells 1 and 2 -/
def f_let (S : zS) (x : Int32) : Int32 := if 0 ≤ x ∧ x < 90 then S.1 2 x.toNatClampNeg else 0
theorem s_letterAt : Sp (l, wX, D, ad, cA) 0 m_Page_letterAt [.ref 1, .int x] S (fun v S' => v = .int (f_let S x) ∧ S' = S) := by
  refine Sp.of dk_Page_letterAt ok_Page_letterAt rfl (g_ld rfl rfl rfl (g_if rfl rfl (fun zc1 => (g_c rfl rfl (g_ri rfl rfl rfl ?_))) (fun zc1 => (g_ld rfl rfl rfl (g_ld rfl rfl rfl (g_gr rfl rfl rfl rfl rfl (g_len rfl rfl rfl (g_if rfl rfl (fun zc10 => (g_c rfl rfl (g_ri rfl rfl rfl ?_))) (fun zc10 => (g_ld rfl rfl rfl (g_gr rfl rfl rfl rfl rfl (g_ld rfl rfl rfl (g_ald rfl rfl rfl ?_ (g_go rfl (g_ri rfl rfl rfl ?_)))))))))))))))
  · exact v_int (if_neg (fun h => absurd h.1 (i_ng zc1))).symm rfl
  · exact v_int (if_neg (fun h => absurd h.2 (i_nl zc10))).symm rfl
  · exact t_in (i_ge zc1) (i_gt zc10)
  · exact v_int (if_pos ⟨i_ge zc1, i_gt zc10⟩).symm rfl
theorem s_pclear : Sp (l, wX, D, ad, cA) 0 m_Page_clear [.ref 1] S (fun v S' => v = .int (S.1 1 1) ∧ S' = z_ui S 1 1 0) := by
  refine Sp.of dk_Page_clear ok_Page_clear rfl (g_ld rfl rfl rfl (g_gi rfl rfl rfl rfl rfl (g_st rfl rfl rfl rfl rfl (g_ld rfl rfl rfl (g_c rfl rfl (g_pi rfl rfl rfl rfl rfl rfl rfl (g_ld rfl rfl rfl (g_ri rfl rfl rfl ?_))))))))
  exact ⟨rfl, rfl⟩
theorem s_padd {n : Nat} (hn : n ≤ 90) (hS : S.1 1 1 = nI n) : Sp (l, wX, D, ad, cA) 0 m_Page_add [.ref 1, .int x] S (fun v S' => (n = 90 ∧ v = .int 0 ∧ S' = S) ∨ (n < 90 ∧ v = .int 1 ∧ S' = z_ui (z_ui S 2 n x) 1 1 (nI (n + 1)))) := by
  refine Sp.of dk_Page_add ok_Page_add rfl (g_ld rfl rfl rfl (g_gi rfl rfl rfl rfl rfl (g_if rfl rfl (fun zc4 => (g_c rfl rfl (g_ri rfl rfl rfl ?_))) (fun zc4 => (g_ld rfl rfl rfl (g_gi rfl rfl rfl rfl rfl (g_ld rfl rfl rfl (g_gr rfl rfl rfl rfl rfl (g_len rfl rfl rfl (g_if rfl rfl (fun zc16 => (g_ld rfl rfl rfl (g_gr rfl rfl rfl rfl rfl (g_ld rfl rfl rfl (g_gi rfl rfl rfl rfl rfl (g_ld rfl rfl rfl (g_ast rfl rfl rfl ?_ (g_ld rfl rfl rfl (g_dup rfl rfl (g_gi rfl rfl rfl rfl rfl (g_c rfl rfl (g_bin rfl rfl (g_pi rfl rfl rfl rfl rfl rfl rfl (g_c rfl rfl (g_ri rfl rfl rfl ?_))))))))))))))) (fun zc16 => (g_c rfl rfl (g_ri rfl rfl rfl ?_)))))))))))))
  · exact absurd (hS ▸ zc4) (nI_pos (by omega))
  · have h90 : nI n < nI 90 := hS ▸ zc16
    rw [hS]
    exact vp_in_nI ((nI_ltI (by omega) (by omega)).mp h90) (by omega)
  · have h90 : nI n < nI 90 := hS ▸ zc16
    refine Or.inr ⟨(nI_ltI (by omega) (by omega)).mp h90, rfl, ?_⟩
    rw [ui_ne (by decide), hS, nI_clamp (by omega), nI_succ]
  · have h90 : ¬ nI n < nI 90 := hS ▸ zc16
    refine Or.inl ⟨?_, rfl, rfl⟩
    rcases Nat.lt_or_ge n 90 with h | h
    · exact absurd (nI_lt h (by omega)) h90
    · omega
/-! slots and kinds: r = 18 (now), 24 (kept) -/
def f_kind (S : zS) (r : Nat) (x : Int32) : Int32 := if 0 ≤ x ∧ x < 12 then S.1 (r + 1) x.toNatClampNeg else 3
theorem s_kindOf (hr : r = 18 ∨ r = 24) : Sp (l, wX, D, ad, cA) 0 m_Hold_kindOf [.ref r, .int x] S (fun v S' => v = .int (f_kind S r x) ∧ S' = S) := by
  rcases hr with rfl | rfl
  all_goals
    refine Sp.of dk_Hold_kindOf ok_Hold_kindOf rfl (g_ld rfl rfl rfl (g_if rfl rfl (fun zc1 => (g_c rfl rfl (g_ri rfl rfl rfl ?_))) (fun zc1 => (g_ld rfl rfl rfl (g_ld rfl rfl rfl (g_gr rfl rfl rfl rfl rfl (g_len rfl rfl rfl (g_if rfl rfl (fun zc10 => (g_c rfl rfl (g_ri rfl rfl rfl ?_))) (fun zc10 => (g_ld rfl rfl rfl (g_gr rfl rfl rfl rfl rfl (g_ld rfl rfl rfl (g_ald rfl rfl rfl ?_ (g_go rfl (g_ri rfl rfl rfl ?_)))))))))))))))
    · exact v_int (if_neg (fun h => absurd h.1 (i_ng zc1))).symm rfl
    · exact v_int (if_neg (fun h => absurd h.2 (i_nl zc10))).symm rfl
    · exact t_in (i_ge zc1) (i_gt zc10)
    · exact v_int (if_pos ⟨i_ge zc1, i_gt zc10⟩).symm rfl
def f_siz (S : zS) (r : Nat) (x : Int32) : Int32 := if 0 ≤ x ∧ x < 8 then S.1 (r + 2) x.toNatClampNeg else 0
theorem s_sizeOf (hr : r = 18 ∨ r = 24) : Sp (l, wX, D, ad, cA) 1 m_Hold_sizeOf [.ref r, .int x] S (fun v S' => v = .int (f_siz S r x) ∧ S' = S) := by
  rcases hr with rfl | rfl
  all_goals
    refine Sp.of dk_Hold_sizeOf ok_Hold_sizeOf rfl (g_ld rfl rfl rfl (g_cs rfl (s_isSlot) (by omega) rfl rfl rfl rfl rfl rfl (z_k1 (g_if rfl rfl (fun zc4 => (g_c rfl rfl (g_ri rfl rfl rfl ?_))) (fun zc4 => (g_ld rfl rfl rfl (g_gr rfl rfl rfl rfl rfl (g_ld rfl rfl rfl (g_ald rfl rfl rfl ?_ (g_go rfl (g_ri rfl rfl rfl ?_)))))))))))
    · exact v_int (if_neg (b2_0.mp zc4)).symm rfl
    · exact t_in (b2_n.mp zc4).1 (b2_n.mp zc4).2
    · exact v_int (if_pos (b2_n.mp zc4)).symm rfl
def f_row (S : zS) (r : Nat) (x : Int32) : Int32 := if 0 ≤ x ∧ x < 15 then S.1 (r + 1) x.toNatClampNeg else 0
theorem s_rsignAt (hr : r = 38 ∨ r = 43) : Sp (l, wX, D, ad, cA) 0 m_Row_signAt [.ref r, .int x] S (fun v S' => v = .int (f_row S r x) ∧ S' = S) := by
  rcases hr with rfl | rfl
  all_goals
    refine Sp.of dk_Row_signAt ok_Row_signAt rfl (g_ld rfl rfl rfl (g_if rfl rfl (fun zc1 => (g_c rfl rfl (g_ri rfl rfl rfl ?_))) (fun zc1 => (g_ld rfl rfl rfl (g_ld rfl rfl rfl (g_gr rfl rfl rfl rfl rfl (g_len rfl rfl rfl (g_if rfl rfl (fun zc10 => (g_c rfl rfl (g_ri rfl rfl rfl ?_))) (fun zc10 => (g_ld rfl rfl rfl (g_gr rfl rfl rfl rfl rfl (g_ld rfl rfl rfl (g_ald rfl rfl rfl ?_ (g_go rfl (g_ri rfl rfl rfl ?_)))))))))))))))
    · exact v_int (if_neg (fun h => absurd h.1 (i_ng zc1))).symm rfl
    · exact v_int (if_neg (fun h => absurd h.2 (i_nl zc10))).symm rfl
    · exact t_in (i_ge zc1) (i_gt zc10)
    · exact v_int (if_pos ⟨i_ge zc1, i_gt zc10⟩).symm rfl
def f_fit (S : zS) (x : Int32) : Int32 := if 0 ≤ x ∧ x < 34 then S.1 41 x.toNatClampNeg else 0
theorem s_fsignAt : Sp (l, wX, D, ad, cA) 0 m_Fit_signAt [.ref 40, .int x] S (fun v S' => v = .int (f_fit S x) ∧ S' = S) := by
  refine Sp.of dk_Fit_signAt ok_Fit_signAt rfl (g_ld rfl rfl rfl (g_if rfl rfl (fun zc1 => (g_c rfl rfl (g_ri rfl rfl rfl ?_))) (fun zc1 => (g_ld rfl rfl rfl (g_ld rfl rfl rfl (g_gr rfl rfl rfl rfl rfl (g_len rfl rfl rfl (g_if rfl rfl (fun zc10 => (g_c rfl rfl (g_ri rfl rfl rfl ?_))) (fun zc10 => (g_ld rfl rfl rfl (g_gr rfl rfl rfl rfl rfl (g_ld rfl rfl rfl (g_ald rfl rfl rfl ?_ (g_go rfl (g_ri rfl rfl rfl ?_)))))))))))))))
  · exact v_int (if_neg (fun h => absurd h.1 (i_ng zc1))).symm rfl
  · exact v_int (if_neg (fun h => absurd h.2 (i_nl zc10))).symm rfl
  · exact t_in (i_ge zc1) (i_gt zc10)
  · exact v_int (if_pos ⟨i_ge zc1, i_gt zc10⟩).symm rfl
def f_way (S : zS) (r : Nat) (x z : Int32) : Int32 := if 0 ≤ 2 * x + z ∧ 2 * x + z < 8 then S.1 (r + 1) (2 * x + z).toNatClampNeg else 0
theorem s_wayOf (hr : r = 30 ∨ r = 34) : Sp (l, wX, D, ad, cA) 0 m_Ways_wayOf [.ref r, .int x, .int z] S (fun v S' => v = .int (f_way S r x z) ∧ S' = S) := by
  rcases hr with rfl | rfl
  all_goals
    refine Sp.of dk_Ways_wayOf ok_Ways_wayOf rfl (g_c rfl rfl (g_ld rfl rfl rfl (g_bin rfl rfl (g_ld rfl rfl rfl (g_bin rfl rfl (g_st rfl rfl rfl rfl rfl (g_ld rfl rfl rfl (g_if rfl rfl (fun zc7 => (g_c rfl rfl (g_ri rfl rfl rfl ?_))) (fun zc7 => (g_ld rfl rfl rfl (g_ld rfl rfl rfl (g_gr rfl rfl rfl rfl rfl (g_len rfl rfl rfl (g_if rfl rfl (fun zc16 => (g_c rfl rfl (g_ri rfl rfl rfl ?_))) (fun zc16 => (g_ld rfl rfl rfl (g_gr rfl rfl rfl rfl rfl (g_ld rfl rfl rfl (g_ald rfl rfl rfl ?_ (g_go rfl (g_ri rfl rfl rfl ?_)))))))))))))))))))))
    · exact v_int (if_neg (fun h => absurd h.1 (i_ng zc7))).symm rfl
    · exact v_int (if_neg (fun h => absurd h.2 (i_nl zc16))).symm rfl
    · exact t_in (i_ge zc7) (i_gt zc16)
    · exact v_int (if_pos ⟨i_ge zc7, i_gt zc16⟩).symm rfl
end
