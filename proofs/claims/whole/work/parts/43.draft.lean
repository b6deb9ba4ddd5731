/-! the draft: clear; begin -/
def bk0 : Bk := (0, fun _ => 0, fun _ => 0, fun _ => [])
section
variable {l : Launch} {D : va_G} {ad : Nat → Nat} {cA : ClassId} {x y z w : Int32} {S S' : zS} {m : Mt}
theorem fill_at {f : Nat → Int32} {n j : Nat} {x : Int32} (h : j < n) : fillF f n x j = x := by unfold fillF; rw [if_pos h]
theorem s_bclear : Sp (l, wX, D, ad, cA) 1 m_Book_clear [.ref 10] S (fun v S' => v = .null ∧ Ag [10, 11, 12, 13, 14, 15, 16] S S' ∧ BkX S' 10 bk0 ∧ (∀ i, i < 12 → S'.1 11 i = 0) ∧ S'.1 10 6 = 0 ∧ ∀ i, i < 16 → S'.1 15 i = 0 ∧ S'.1 16 i = 0) := by
  refine Sp.of dk_Book_clear ok_Book_clear rfl (g_ld rfl rfl rfl (g_gr rfl rfl rfl rfl rfl (g_c rfl rfl (g_cs rfl (s_fill rfl rfl (by decide)) (by omega) rfl rfl rfl rfl rfl rfl (fun zv5 zS5 zh5 => ?_)))))
  obtain ⟨rfl, h1⟩ := zh5
  refine (g_ld rfl rfl rfl (g_gr rfl rfl rfl rfl rfl (g_c rfl rfl (g_cs rfl (s_fill rfl rfl (by decide)) (by omega) rfl rfl rfl rfl rfl rfl (fun zv13 zS13 zh13 => ?_)))))
  obtain ⟨rfl, h2⟩ := zh13
  refine (g_ld rfl rfl rfl (g_gr rfl rfl rfl rfl rfl (g_c rfl rfl (g_cs rfl (s_fill rfl rfl (by decide)) (by omega) rfl rfl rfl rfl rfl rfl (fun zv21 zS21 zh21 => ?_)))))
  obtain ⟨rfl, h3⟩ := zh21
  refine (g_ld rfl rfl rfl (g_gr rfl rfl rfl rfl rfl (g_c rfl rfl (g_cs rfl (s_fill rfl rfl (by decide)) (by omega) rfl rfl rfl rfl rfl rfl (fun zv29 zS29 zh29 => ?_)))))
  obtain ⟨rfl, h4⟩ := zh29
  refine (g_ld rfl rfl rfl (g_gr rfl rfl rfl rfl rfl (g_c rfl rfl (g_cs rfl (s_fill rfl rfl (by decide)) (by omega) rfl rfl rfl rfl rfl rfl (fun zv37 zS37 zh37 => ?_)))))
  obtain ⟨rfl, h5⟩ := zh37
  refine (g_ld rfl rfl rfl (g_gr rfl rfl rfl rfl rfl (g_c rfl rfl (g_cs rfl (s_fill rfl rfl (by decide)) (by omega) rfl rfl rfl rfl rfl rfl (fun zv45 zS45 zh45 => ?_)))))
  obtain ⟨rfl, h6⟩ := zh45
  refine (g_ld rfl rfl rfl (g_c rfl rfl (g_pi rfl rfl rfl rfl rfl rfl rfl (g_ld rfl rfl rfl (g_c rfl rfl (g_pi rfl rfl rfl rfl rfl rfl rfl (g_rv rfl rfl ?_)))))))
  have hA : Ag [10, 11, 12, 13, 14, 15, 16] S zS45 := by
    subst h6
    subst h5
    subst h4
    subst h3
    subst h2
    subst h1
    exact (((((Ag.rf.uf (by decide)).uf (by decide)).uf (by decide)).uf (by decide)).uf (by decide)).uf (by decide)
  have g1 : ∀ i, i < 12 → zS45.1 11 i = 0 := fun i hi => by
    rw [h6, uf_ne (by decide), h5, uf_ne (by decide), h4, uf_ne (by decide), h3, uf_ne (by decide), h2, uf_ne (by decide), h1, uf_at]
    exact fill_at hi
  have g2 : ∀ i, i < 4 → zS45.1 12 i = 0 := fun i hi => by
    rw [h6, uf_ne (by decide), h5, uf_ne (by decide), h4, uf_ne (by decide), h3, uf_ne (by decide), h2, uf_at]
    exact fill_at hi
  have g3 : ∀ i, i < 4 → zS45.1 13 i = 0 := fun i hi => by
    rw [h6, uf_ne (by decide), h5, uf_ne (by decide), h4, uf_ne (by decide), h3, uf_at]
    exact fill_at hi
  have g5 : ∀ i, i < 16 → zS45.1 15 i = 0 := fun i hi => by
    rw [h6, uf_ne (by decide), h5, uf_at]
    exact fill_at hi
  have g6 : ∀ i, i < 16 → zS45.1 16 i = 0 := fun i hi => by
    rw [h6, uf_at]
    exact fill_at hi
  refine ⟨rfl, (hA.ui (by decide)).ui (by decide), ⟨?_, fun k hk => ?_, fun k hk => ?_, fun p hp => ⟨0, ?_, ?_, ?_, ?_⟩⟩, fun i hi => ?_, ?_, fun i hi => ⟨?_, ?_⟩⟩
  · rw [ui_at, pk_us]; rfl
  · rw [ui_ne (by decide), ui_ne (by decide)]; exact g2 k hk
  · rw [ui_ne (by decide), ui_ne (by decide)]; exact g3 k hk
  · rw [ui_ne (by decide), ui_ne (by decide)]; exact g5 p hp
  · rw [ui_ne (by decide), ui_ne (by decide)]; exact g6 p hp
  · exact Nat.zero_le _
  · exact At.nil
  · rw [ui_ne (by decide), ui_ne (by decide)]; exact g1 i hi
  · rw [ui_at, pk_un (by decide), ui_at, pk_us]
  · rw [ui_ne (by decide), ui_ne (by decide)]; exact g5 i hi
  · rw [ui_ne (by decide), ui_ne (by decide)]; exact g6 i hi
end
