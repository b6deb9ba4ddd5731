/-! rounds: monotone, so they end within sixteen -/
def itW (F : (Nat → Nat) → Nat → Nat) : Nat → Nat → Nat
  | 0 => fun _ => 0
  | k + 1 => F (itW F k)
def sb (a b : Nat) : Prop := a ||| b = b
theorem sb_rf (a : Nat) : sb a a := Nat.or_self a
theorem sb_0 (a : Nat) : sb 0 a := Nat.zero_or a
theorem thr_monoF : ∀ w w' q q' : Fin 4, w.val ||| w'.val = w'.val → q.val ||| q'.val = q'.val → thr w.val q.val ||| thr w'.val q'.val = thr w'.val q'.val := by decide +kernel
theorem thr_mono (w : Nat) (h1 : w < 4) (w' : Nat) (h2 : w' < 4) (q : Nat) (h3 : q < 4) (q' : Nat) (h4 : q' < 4) (a : w ||| w' = w') (b : q ||| q' = q') : thr w q ||| thr w' q' = thr w' q' := thr_monoF ⟨w, h1⟩ ⟨w', h2⟩ ⟨q, h3⟩ ⟨q', h4⟩ a b
theorem or_monoF : ∀ a a' b b' : Fin 4, a.val ||| a'.val = a'.val → b.val ||| b'.val = b'.val → (a.val ||| b.val) ||| (a'.val ||| b'.val) = (a'.val ||| b'.val) := by decide +kernel
theorem or_mono (a : Nat) (h1 : a < 4) (a' : Nat) (h2 : a' < 4) (b : Nat) (h3 : b < 4) (b' : Nat) (h4 : b' < 4) (p : a ||| a' = a') (q : b ||| b' = b') : (a ||| b) ||| (a' ||| b') = (a' ||| b') := or_monoF ⟨a, h1⟩ ⟨a', h2⟩ ⟨b, h3⟩ ⟨b', h4⟩ p q
def pc2 (a : Nat) : Nat := a % 2 + a / 2 % 2
theorem pc2_lt : ∀ a, a < 4 → ∀ b, b < 4 → a ||| b = b → pc2 a ≤ pc2 b ∧ (a ≠ b → pc2 a < pc2 b) ∧ pc2 b ≤ 2 := by decide +kernel
/-- two lists of ways, one below the other -/
def sbl : List Nat → List Nat → Prop
  | [], [] => True
  | a :: l, b :: m => sb a b ∧ sbl l m
  | _, _ => False
theorem sbl_rf : ∀ l, sbl l l
  | [] => trivial
  | a :: l => ⟨sb_rf a, sbl_rf l⟩
theorem sbl_app : ∀ {l m l' m' : List Nat}, sbl l m → sbl l' m' → sbl (l ++ l') (m ++ m')
  | [], [], _, _, _, h => h
  | a :: l, b :: m, _, _, h, h2 => ⟨h.1, sbl_app h.2 h2⟩
  | [], _ :: _, _, _, h, _ => False.elim h
  | _ :: _, [], _, _, h, _ => False.elim h
theorem sbl_map {f g : Nat → Nat} (h : ∀ p, sb (f p) (g p)) : ∀ l : List Nat, sbl (l.map f) (l.map g)
  | [] => trivial
  | a :: l => ⟨h a, sbl_map h l⟩
theorem tl_mono {P V V' : Nat → Nat} (hV : ∀ j, V j < 4) (hV' : ∀ j, V' j < 4) (h : ∀ j, sb (V j) (V' j)) : ∀ (l ws ws' : List Nat), (∀ x ∈ ws, x < 4) → (∀ x ∈ ws', x < 4) → sbl ws ws' → sb (tl P V l ws).1 (tl P V' l ws').1 ∧ sb (tl P V l ws).2 (tl P V' l ws').2
  | [], ws, ws', _, _, _ => by simp [tl, sb_0]
  | s :: l, [], [], _, _, _ => by simp [tl, sb_0]
  | s :: l, [], _ :: _, _, _, hb => False.elim hb
  | s :: l, _ :: _, [], _, _, hb => False.elim hb
  | s :: l, w :: ws, w' :: ws', h1, h2, hb => by
    have a1 := h1 w List.mem_cons_self
    have a2 := h2 w' List.mem_cons_self
    have b1 : ∀ x ∈ ws, x < 4 := fun x hx => h1 x (List.mem_cons_of_mem _ hx)
    have b2 : ∀ x ∈ ws', x < 4 := fun x hx => h2 x (List.mem_cons_of_mem _ hx)
    have ih := tl_mono (P := P) hV hV' h l ws ws' b1 b2 hb.2
    have t1 := tl_lt (P := P) hV l ws b1
    have t2 := tl_lt (P := P) hV' l ws' b2
    rw [tl, tl]
    by_cases h4 : s = 4
    · rw [if_pos h4, if_pos h4]
      exact ⟨or_mono _ a1 _ a2 _ t1.1 _ t2.1 hb.1 ih.1, ih.2⟩
    · rw [if_neg h4, if_neg h4]
      by_cases h5 : s = 5
      · rw [if_pos h5, if_pos h5]
        exact ⟨ih.1, or_mono _ a1 _ a2 _ t1.2 _ t2.2 hb.1 ih.2⟩
      · rw [if_neg h5, if_neg h5]
        refine tl_mono hV hV' h l _ _ (fun x hx => ?_) (fun x hx => ?_) (sbl_app (sbl_map (fun p => thr_mono _ a1 _ a2 _ (hV _) _ (hV' _) hb.1 (h _)) _) hb.2)
        · rcases List.mem_append.mp hx with hx | hx
          · exact aw_lt hV a1 x hx
          · exact b1 x hx
        · rcases List.mem_append.mp hx with hx | hx
          · exact aw_lt hV' a2 x hx
          · exact b2 x hx
/-- kinds, one below the other, by their ways -/
theorem tcm_mono {B : Bk} {V V' kd kd' : Nat → Nat} (hV : ∀ j, V j < 4) (hV' : ∀ j, V' j < 4) (h : ∀ j, sb (V j) (V' j)) (hk : ∀ p, sb (kwn (kd p)) (kwn (kd' p))) (c : Nat) : ∀ m, sb (tcm B V kd c m).1 (tcm B V' kd' c m).1 ∧ sb (tcm B V kd c m).2 (tcm B V' kd' c m).2
  | 0 => tl_mono hV hV' h _ _ _ (by simp) (by simp) (sbl_rf _)
  | m + 1 => by
    have ih := tcm_mono (B := B) hV hV' h hk c m
    have t1 := tcm_lt (B := B) (kd := kd) hV c m
    have t2 := tcm_lt (B := B) (kd := kd') hV' c m
    have u1 := tl_lt (P := bP B) hV (bT B (3 * c + m)) [kwn (kd (3 * c + m))] (by simpa using kwn_lt _)
    have u2 := tl_lt (P := bP B) hV' (bT B (3 * c + m)) [kwn (kd' (3 * c + m))] (by simpa using kwn_lt _)
    have u := tl_mono (P := bP B) hV hV' h (bT B (3 * c + m)) [kwn (kd (3 * c + m))] [kwn (kd' (3 * c + m))] (by simpa using kwn_lt _) (by simpa using kwn_lt _) ⟨hk _, trivial⟩
    exact ⟨or_mono _ t1.1 _ t2.1 _ u1.1 _ u2.1 ih.1 u.1, or_mono _ t1.2 _ t2.2 _ u1.2 _ u2.2 ih.2 u.2⟩
theorem Fw_mono {B : Bk} {V V' kd kd' : Nat → Nat} (hV : ∀ j, V j < 4) (hV' : ∀ j, V' j < 4) (h : ∀ j, sb (V j) (V' j)) (hk : ∀ p, sb (kwn (kd p)) (kwn (kd' p))) (j : Nat) : sb (Fw B kd V j) (Fw B kd' V' j) := by
  unfold Fw
  have := tcm_mono (B := B) hV hV' h hk (j / 2) (bM B (j / 2))
  split
  · split
    · exact this.1
    · exact this.2
  · exact sb_rf 0
theorem itW_lt {B : Bk} {kd : Nat → Nat} : ∀ (k j : Nat), itW (Fw B kd) k j < 4
  | 0, _ => by show 0 < 4; omega
  | k + 1, j => Fw_lt (itW_lt k) j
theorem itW_8 {B : Bk} {kd : Nat → Nat} : ∀ (k j : Nat), 8 ≤ j → itW (Fw B kd) k j = 0
  | 0, _, _ => rfl
  | k + 1, j, h => by show Fw B kd _ j = 0; unfold Fw; rw [if_neg (by omega)]
theorem itW_up {B : Bk} {kd : Nat → Nat} : ∀ (k j : Nat), sb (itW (Fw B kd) k j) (itW (Fw B kd) (k + 1) j)
  | 0, j => sb_0 _
  | k + 1, j => Fw_mono (itW_lt k) (itW_lt (k + 1)) (itW_up k) (fun _ => sb_rf _) j
def sumN (f : Nat → Nat) : Nat → Nat
  | 0 => 0
  | n + 1 => sumN f n + f n
theorem sumN_le {f g : Nat → Nat} (h : ∀ j, f j ≤ g j) : ∀ n, sumN f n ≤ sumN g n
  | 0 => Nat.le_refl _
  | n + 1 => Nat.add_le_add (sumN_le h n) (h n)
theorem sumN_lt {f g : Nat → Nat} (h : ∀ j, f j ≤ g j) {i : Nat} (hi : f i < g i) : ∀ n, i < n → sumN f n < sumN g n
  | 0, h0 => absurd h0 (Nat.not_lt_zero _)
  | n + 1, h0 => by
    by_cases e : i = n
    · subst e; exact Nat.add_lt_add_of_le_of_lt (sumN_le h i) hi
    · exact Nat.add_lt_add_of_lt_of_le (sumN_lt h hi n (by omega)) (h n)
theorem sumN_2 {f : Nat → Nat} (h : ∀ j, f j ≤ 2) : ∀ n, sumN f n ≤ 2 * n
  | 0 => Nat.le_refl _
  | n + 1 => by have := sumN_2 h n; have := h n; simp only [sumN]; omega
theorem itW_mu {B : Bk} {kd : Nat → Nat} : ∀ k, (∀ i, i < k → itW (Fw B kd) (i + 1) ≠ itW (Fw B kd) i) → k ≤ sumN (fun j => pc2 (itW (Fw B kd) k j)) 8
  | 0, _ => Nat.zero_le _
  | k + 1, h => by
    have ih := itW_mu k (fun i hi => h i (by omega))
    have hne := h k (by omega)
    have hex : ∃ j, itW (Fw B kd) k j ≠ itW (Fw B kd) (k + 1) j := by
      apply Classical.byContradiction
      intro hc
      exact hne (funext fun j => Decidable.not_not.mp (fun q => hc ⟨j, fun e => q e.symm⟩))
    obtain ⟨j, hj⟩ := hex
    have hj8 : j < 8 := by
      apply Nat.lt_of_not_le
      intro h8
      exact hj (by rw [itW_8 k j h8, itW_8 (k + 1) j h8])
    have key := fun j => pc2_lt _ (itW_lt (B := B) (kd := kd) k j) _ (itW_lt (k + 1) j) (itW_up k j)
    have := sumN_lt (f := fun j => pc2 (itW (Fw B kd) k j)) (g := fun j => pc2 (itW (Fw B kd) (k + 1) j)) (fun j => (key j).1) ((key j).2.1 hj) 8 hj8
    omega
theorem stab_ex (B : Bk) (kd : Nat → Nat) : ∃ R, (R ≤ 16 ∧ itW (Fw B kd) (R + 1) = itW (Fw B kd) R) ∧ ∀ k, k < R → itW (Fw B kd) (k + 1) ≠ itW (Fw B kd) k := by
  have hex : ∃ R, R ≤ 16 ∧ itW (Fw B kd) (R + 1) = itW (Fw B kd) R := by
    apply Classical.byContradiction
    intro hc
    have h17 := itW_mu (B := B) (kd := kd) 17 (fun i hi e => hc ⟨i, by omega, e⟩)
    have := sumN_2 (f := fun j => pc2 (itW (Fw B kd) 17 j)) (fun j => (pc2_lt _ (itW_lt (B := B) (kd := kd) 17 j) _ (itW_lt 17 j) (sb_rf _)).2.2) 8
    omega
  obtain ⟨R, hR, hl⟩ := pk_least _ hex
  refine ⟨R, hR, fun k hk e => hl k hk ⟨by omega, e⟩⟩
noncomputable def rnd (B : Bk) (kd : Nat → Nat) : Nat := Classical.choose (stab_ex B kd)
noncomputable def wy (B : Bk) (kd : Nat → Nat) : Nat → Nat := itW (Fw B kd) (rnd B kd)
theorem rnd_sp (B : Bk) (kd : Nat → Nat) : (rnd B kd ≤ 16 ∧ itW (Fw B kd) (rnd B kd + 1) = itW (Fw B kd) (rnd B kd)) ∧ ∀ k, k < rnd B kd → itW (Fw B kd) (k + 1) ≠ itW (Fw B kd) k := Classical.choose_spec (stab_ex B kd)
theorem wy_fix (B : Bk) (kd : Nat → Nat) : Fw B kd (wy B kd) = wy B kd := (rnd_sp B kd).1.2
theorem wy_lt (B : Bk) (kd : Nat → Nat) (j : Nat) : wy B kd j < 4 := itW_lt _ j
theorem rnd_ge {B : Bk} {kd : Nat → Nat} {i : Nat} (h : ∀ k, k < i → itW (Fw B kd) (k + 1) ≠ itW (Fw B kd) k) : i ≤ rnd B kd := Nat.le_of_not_lt (fun q => h _ q (rnd_sp B kd).1.2)
theorem rnd_is {B : Bk} {kd : Nat → Nat} {i : Nat} (h : ∀ k, k < i → itW (Fw B kd) (k + 1) ≠ itW (Fw B kd) k) (he : itW (Fw B kd) (i + 1) = itW (Fw B kd) i) : rnd B kd = i := by
  have h1 := rnd_ge h
  rcases Nat.lt_or_ge i (rnd B kd) with q | q
  · exact absurd he ((rnd_sp B kd).2 i q)
  · omega
theorem chb_iff {B : Bk} {kd : Nat → Nat} {k : Nat} : chb (Fw B kd (itW (Fw B kd) k)) (itW (Fw B kd) k) 8 = true ↔ itW (Fw B kd) (k + 1) ≠ itW (Fw B kd) k := by
  unfold chb
  rw [List.any_eq_true]
  constructor
  · rintro ⟨j, -, hj⟩ e
    exact (of_decide_eq_true hj) (congrFun e j)
  · intro hne
    apply Classical.byContradiction
    intro hc
    apply hne
    funext j
    by_cases h8 : j < 8
    · apply Decidable.not_not.mp
      intro q
      exact hc ⟨j, List.mem_range.mpr h8, decide_eq_true q⟩
    · rw [itW_8 _ _ (by omega), itW_8 _ _ (by omega)]
section
variable {l : Launch} {D : va_G} {ad : Nat → Nat} {cA : ClassId} {d r q n : Nat} {x z : Int32} {S S0 : zS} {B : Bk} {V kd : Nat → Nat}
theorem s_goRound (hr : (r = 30 ∧ q = 33) ∨ (r = 34 ∧ q = 37)) (hB : BkX S 3 B) (hW : WfB B) (hV : WyR S r V) (hK : KdX S kd) {h : Nat} (hh : h < 4096) : Sp (l, wX, D, ad, cA) 4 m_Ways_goRound [.ref r, .ref 19, .int (nI h)] S (grPost S r (Fw B (kdh kd h) V) V) := by
  have key := lp_goRound (l := l) (D := D) (ad := ad) (cA := cA) hr rfl rfl hB hW hV hK hh _ 0 S none none rfl (by omega) Ag.rf (fun j hj => absurd hj (by omega))
  rcases hr with ⟨rfl, rfl⟩ | ⟨rfl, rfl⟩
  all_goals
    refine Sp.of dk_Ways_goRound ok_Ways_goRound rfl (g_c rfl rfl (g_st rfl rfl rfl rfl rfl (g_c rfl rfl (g_st rfl rfl rfl rfl rfl ?_))))
    exact key
def stPost (S0 : zS) (r : Nat) (B : Bk) (kd : Nat → Nat) : Value → zS → Prop := fun v S' => v = .null ∧ WyR S' r (wy B kd) ∧ S'.1 r 4 = nI (rnd B kd) ∧ Ag [r, r + 1, r + 2, r + 3] S0 S'
theorem lp_settle (hr : (r = 30 ∧ q = 33) ∨ (r = 34 ∧ q = 37)) (hB : BkX S0 3 B) (hW : WfB B) (hK : KdX S0 kd) {h : Nat} (hh : h < 4096) : ∀ (k i : Nat) (S : zS), 17 - i = k → (∀ k, k < i → itW (Fw B (kdh kd h)) (k + 1) ≠ itW (Fw B (kdh kd h)) k) → Ag [r, r + 1, r + 2, r + 3] S0 S → WyR S r (itW (Fw B (kdh kd h)) i) → S.1 r 4 = nI i → Go (l, wX, D, ad, cA) 5 m_Ways_settle (stPost S0 r B (kdh kd h)) 18 [some (.ref r), some (.ref 19), some (.int (nI h)), some (.int 1), some (.int (nI i))] [] S := by
  have hr0 := hr
  rcases hr with ⟨rfl, rfl⟩ | ⟨rfl, rfl⟩
  · intro k
    induction k using Nat.strongRecOn with
    | ind k ih =>
      intro i S hk hne hA hV hR
      have hi := rnd_ge hne
      have h16 := (rnd_sp B (kdh kd h)).1.1
      have hB2 : BkX S 3 B := hB.ag (fun k h3 h9 => hA.1 k (by simp; omega))
      have hK2 : KdX S kd := hK.ag (hA.1 _ (by decide))
      refine (g_ld rfl rfl rfl (g_c rfl rfl (g_if rfl rfl (fun zc22 => (g_rv rfl rfl ?_)) (fun zc22 => (g_ld rfl rfl rfl (g_if rfl rfl (fun zc26 => (g_rv rfl rfl ?_)) (fun zc26 => (g_ld rfl rfl rfl (g_ld rfl rfl rfl (g_ld rfl rfl rfl (g_cv rfl (s_goRound hr0 hB2 hW hV hK2 hh) (by omega) rfl rfl rfl rfl rfl rfl rfl rfl rfl (fun zv32 zS32 zh32 => ?_))))))))))))
      · have := le_n (a := 17) zc22; omega
      · exact absurd zc26 (by decide)
      · obtain ⟨rfl, hV3, hA3⟩ := zh32
        have hA4 : Ag [30, 30 + 1, 30 + 2, 30 + 3] S zS32 := hA3.mono (by simp)
        have eR : zS32.1 30 4 = nI i := by rw [hA3.1 _ (by decide)]; exact hR
        by_cases hc : chb (Fw B (kdh kd h) (itW (Fw B (kdh kd h)) i)) (itW (Fw B (kdh kd h)) i) 8 = true
        · rw [b2_t hc]
          refine (g_st rfl rfl rfl rfl rfl (g_ld rfl rfl rfl (g_if rfl rfl (fun zc37 => (g_inc rfl rfl rfl rfl (g_go rfl ?_))) (fun zc37 => (g_ld rfl rfl rfl (g_dup rfl rfl (g_gi rfl rfl rfl rfl rfl (g_c rfl rfl (g_bin rfl rfl (g_pi rfl rfl rfl rfl rfl rfl rfl (g_inc rfl rfl rfl rfl (g_go rfl ?_))))))))))))
          · exact absurd zc37 (by decide)
          · rw [eR]
            have hA5 : Ag [30, 30 + 1, 30 + 2, 30 + 3] S0 (z_ui zS32 30 4 (nI (i + 1))) := (hA.tr hA4).ui (by decide)
            have := ih _ (by omega) (i + 1) (z_ui zS32 30 4 (nI (i + 1))) rfl (fun k hk => by
              rcases Nat.lt_or_ge k i with g | g
              · exact hne k g
              · rw [show k = i by omega]; exact chb_iff.mp hc) hA5 (hV3.ag (ui_ne (by decide))) (by rw [ui_at, pk_us])
            rw [nI_succ] at this
            exact this
        · rw [b2_f hc]
          have he : itW (Fw B (kdh kd h)) (i + 1) = itW (Fw B (kdh kd h)) i := Classical.byContradiction (fun q => hc (chb_iff.mpr q))
          have hrn := rnd_is hne he
          have fin : stPost S0 30 B (kdh kd h) .null zS32 := by
            refine ⟨rfl, ?_, by rw [hrn]; exact eR, hA.tr hA4⟩
            unfold wy
            rw [hrn, ← he]
            exact hV3
          refine (g_st rfl rfl rfl rfl rfl (g_ld rfl rfl rfl (g_if rfl rfl (fun zc37 => (g_inc rfl rfl rfl rfl (g_go rfl ?_))) (fun zc37 => (g_ld rfl rfl rfl (g_dup rfl rfl (g_gi rfl rfl rfl rfl rfl (g_c rfl rfl (g_bin rfl rfl (g_pi rfl rfl rfl rfl rfl rfl rfl (g_inc rfl rfl rfl rfl (g_go rfl ?_))))))))))))
          · refine (g_ld rfl rfl rfl (g_c rfl rfl (g_if rfl rfl (fun zc22 => (g_rv rfl rfl ?_)) (fun zc22 => (g_ld rfl rfl rfl (g_if rfl rfl (fun zc26 => (g_rv rfl rfl ?_)) (fun zc26 => ?_)))))))
            · exact fin
            · exact fin
            · exact absurd rfl zc26
          · exact absurd rfl zc37
  · intro k
    induction k using Nat.strongRecOn with
    | ind k ih =>
      intro i S hk hne hA hV hR
      have hi := rnd_ge hne
      have h16 := (rnd_sp B (kdh kd h)).1.1
      have hB2 : BkX S 3 B := hB.ag (fun k h3 h9 => hA.1 k (by simp; omega))
      have hK2 : KdX S kd := hK.ag (hA.1 _ (by decide))
      refine (g_ld rfl rfl rfl (g_c rfl rfl (g_if rfl rfl (fun zc22 => (g_rv rfl rfl ?_)) (fun zc22 => (g_ld rfl rfl rfl (g_if rfl rfl (fun zc26 => (g_rv rfl rfl ?_)) (fun zc26 => (g_ld rfl rfl rfl (g_ld rfl rfl rfl (g_ld rfl rfl rfl (g_cv rfl (s_goRound hr0 hB2 hW hV hK2 hh) (by omega) rfl rfl rfl rfl rfl rfl rfl rfl rfl (fun zv32 zS32 zh32 => ?_))))))))))))
      · have := le_n (a := 17) zc22; omega
      · exact absurd zc26 (by decide)
      · obtain ⟨rfl, hV3, hA3⟩ := zh32
        have hA4 : Ag [34, 34 + 1, 34 + 2, 34 + 3] S zS32 := hA3.mono (by simp)
        have eR : zS32.1 34 4 = nI i := by rw [hA3.1 _ (by decide)]; exact hR
        by_cases hc : chb (Fw B (kdh kd h) (itW (Fw B (kdh kd h)) i)) (itW (Fw B (kdh kd h)) i) 8 = true
        · rw [b2_t hc]
          refine (g_st rfl rfl rfl rfl rfl (g_ld rfl rfl rfl (g_if rfl rfl (fun zc37 => (g_inc rfl rfl rfl rfl (g_go rfl ?_))) (fun zc37 => (g_ld rfl rfl rfl (g_dup rfl rfl (g_gi rfl rfl rfl rfl rfl (g_c rfl rfl (g_bin rfl rfl (g_pi rfl rfl rfl rfl rfl rfl rfl (g_inc rfl rfl rfl rfl (g_go rfl ?_))))))))))))
          · exact absurd zc37 (by decide)
          · rw [eR]
            have hA5 : Ag [34, 34 + 1, 34 + 2, 34 + 3] S0 (z_ui zS32 34 4 (nI (i + 1))) := (hA.tr hA4).ui (by decide)
            have := ih _ (by omega) (i + 1) (z_ui zS32 34 4 (nI (i + 1))) rfl (fun k hk => by
              rcases Nat.lt_or_ge k i with g | g
              · exact hne k g
              · rw [show k = i by omega]; exact chb_iff.mp hc) hA5 (hV3.ag (ui_ne (by decide))) (by rw [ui_at, pk_us])
            rw [nI_succ] at this
            exact this
        · rw [b2_f hc]
          have he : itW (Fw B (kdh kd h)) (i + 1) = itW (Fw B (kdh kd h)) i := Classical.byContradiction (fun q => hc (chb_iff.mpr q))
          have hrn := rnd_is hne he
          have fin : stPost S0 34 B (kdh kd h) .null zS32 := by
            refine ⟨rfl, ?_, by rw [hrn]; exact eR, hA.tr hA4⟩
            unfold wy
            rw [hrn, ← he]
            exact hV3
          refine (g_st rfl rfl rfl rfl rfl (g_ld rfl rfl rfl (g_if rfl rfl (fun zc37 => (g_inc rfl rfl rfl rfl (g_go rfl ?_))) (fun zc37 => (g_ld rfl rfl rfl (g_dup rfl rfl (g_gi rfl rfl rfl rfl rfl (g_c rfl rfl (g_bin rfl rfl (g_pi rfl rfl rfl rfl rfl rfl rfl (g_inc rfl rfl rfl rfl (g_go rfl ?_))))))))))))
          · refine (g_ld rfl rfl rfl (g_c rfl rfl (g_if rfl rfl (fun zc22 => (g_rv rfl rfl ?_)) (fun zc22 => (g_ld rfl rfl rfl (g_if rfl rfl (fun zc26 => (g_rv rfl rfl ?_)) (fun zc26 => ?_)))))))
            · exact fin
            · exact fin
            · exact absurd rfl zc26
          · exact absurd rfl zc37
theorem s_settle (hr : (r = 30 ∧ q = 33) ∨ (r = 34 ∧ q = 37)) (hB : BkX S 3 B) (hW : WfB B) (hK : KdX S kd) {h : Nat} (hh : h < 4096) : Sp (l, wX, D, ad, cA) 5 m_Ways_settle [.ref r, .ref 19, .int (nI h)] S (stPost S r B (kdh kd h)) := by
  have hr0 := hr
  rcases hr with ⟨rfl, rfl⟩ | ⟨rfl, rfl⟩
  · refine Sp.of dk_Ways_settle ok_Ways_settle rfl (g_ld rfl rfl rfl (g_gr rfl rfl rfl rfl rfl (g_c rfl rfl (g_cs rfl (s_fill rfl rfl (by decide)) (by omega) rfl rfl rfl rfl rfl rfl (fun zv5 zS5 zh5 => ?_)))))
    obtain ⟨rfl, rfl⟩ := zh5
    refine (g_ld rfl rfl rfl (g_c rfl rfl (g_pi rfl rfl rfl rfl rfl rfl rfl (g_c rfl rfl (g_st rfl rfl rfl rfl rfl (g_c rfl rfl (g_st rfl rfl rfl rfl rfl ?_)))))))
    refine lp_settle hr0 hB hW hK hh _ 0 _ rfl (fun k hk => absurd hk (by omega)) ((Ag.rf.uf (by decide)).ui (by decide)) ⟨fun _ => by show 0 < 4; omega, fun j hj => ?_⟩ (by rw [ui_at, pk_us]; rfl)
    rw [ui_ne (by decide)]
    show (z_uf S 31 _).1 31 j = _
    rw [uf_at]
    show (if j < 8 then (0 : Int32) else _) = _
    rw [if_pos hj]
    rfl
  · refine Sp.of dk_Ways_settle ok_Ways_settle rfl (g_ld rfl rfl rfl (g_gr rfl rfl rfl rfl rfl (g_c rfl rfl (g_cs rfl (s_fill rfl rfl (by decide)) (by omega) rfl rfl rfl rfl rfl rfl (fun zv5 zS5 zh5 => ?_)))))
    obtain ⟨rfl, rfl⟩ := zh5
    refine (g_ld rfl rfl rfl (g_c rfl rfl (g_pi rfl rfl rfl rfl rfl rfl rfl (g_c rfl rfl (g_st rfl rfl rfl rfl rfl (g_c rfl rfl (g_st rfl rfl rfl rfl rfl ?_)))))))
    refine lp_settle hr0 hB hW hK hh _ 0 _ rfl (fun k hk => absurd hk (by omega)) ((Ag.rf.uf (by decide)).ui (by decide)) ⟨fun _ => by show 0 < 4; omega, fun j hj => ?_⟩ (by rw [ui_at, pk_us]; rfl)
    rw [ui_ne (by decide)]
    show (z_uf S 35 _).1 35 j = _
    rw [uf_at]
    show (if j < 8 then (0 : Int32) else _) = _
    rw [if_pos hj]
    rfl
end
