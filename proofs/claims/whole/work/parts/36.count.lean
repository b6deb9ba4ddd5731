/-! count -/
def goP (V : Nat → Nat) (t c : Nat) : Nat → Nat
  | 0 => 0
  | p + 1 => goP V t c p + (if V (2 * c + p) = t then 1 else 0)
def goC (V P : Nat → Nat) (t : Nat) : Nat → Nat
  | 0 => 0
  | c + 1 => goC V P t c + goP V t c (P c)
theorem sumF_eq {f : Nat → Int32} {g : Nat → Nat} : ∀ n, (∀ k, k < n → f k = nI (g k)) → sumF f n = nI (sumN g n)
  | 0, _ => rfl
  | n + 1, h => by rw [sumF, sumN, sumF_eq n (fun k hk => h k (by omega)), h n (by omega), nI_add]
section
variable {l : Launch} {D : va_G} {ad : Nat → Nat} {cA : ClassId} {x y z w : Int32} {S S' : zS} {m : Mt} {B : Bk} {V kd : Nat → Nat} {r q n t : Nat}
theorem way_at (hV : WyR S 30 V) {c p : Nat} (hc : c < 4) (hp : p < 2) : f_way S 30 (nI c) (nI p) = nI (V (2 * c + p)) := by
  have e : 2 * nI c + nI p = nI (2 * c + p) := by rw [show (2 : Int32) = nI 2 from rfl, pk_mul, nI_add]
  unfold f_way
  rw [e, if_pos (in8 (by omega)), nI_clamp (by omega)]
  exact hV.2 _ (by omega)
theorem lp_hgoI (hB : BkX S 3 B) (hW : WfB B) (hV : WyR S 30 V) (ht : t < 4) {Post : Value → zS → Prop} {c : Nat} (hc : c < 4) (K : ∀ w : Option Value, Go (l, wX, D, ad, cA) 1 m_Ways_howManyGo Post 4 [some (.ref 30), some (.int (nI t)), some (.int (nI (goC V (bP B) t (c + 1)))), some (.int (nI (c + 1))), w] [] S) : ∀ (k p : Nat), p + k = bP B c → Go (l, wX, D, ad, cA) 1 m_Ways_howManyGo Post 18 [some (.ref 30), some (.int (nI t)), some (.int (nI (goC V (bP B) t c + goP V t c p))), some (.int (nI c)), some (.int (nI p))] [] S
  | 0, p, h => by
    have hpar : f_par S 3 (nI c) = nI (bP B c) := bk_par hB hW (by omega)
    have hP2 := hW.2.1 c
    refine (g_ld rfl rfl rfl (g_ld rfl rfl rfl (g_gr rfl rfl rfl rfl rfl (g_ld rfl rfl rfl (g_cv rfl (s_parametersOf (by decide)) (by omega) rfl rfl rfl rfl rfl rfl rfl rfl rfl (z_k1 (g_if rfl rfl (fun zc28 => (g_inc rfl rfl rfl rfl (g_go rfl ?_))) (fun zc28 => (g_ld rfl rfl rfl (g_ld rfl rfl rfl (g_ld rfl rfl rfl (g_cv rfl (s_wayOf (by decide)) (by omega) rfl rfl rfl rfl rfl rfl rfl rfl rfl (z_k1 (g_ld rfl rfl rfl (g_if rfl rfl (fun zc39 => (g_inc rfl rfl rfl rfl (g_go rfl ?_))) (fun zc39 => (g_inc rfl rfl rfl rfl (g_inc rfl rfl rfl rfl (g_go rfl ?_)))))))))))))))))))
    · have e : p = bP B c := by omega
      have := K (some (.int (nI p)))
      rw [goC, nI_succ] at this
      rw [e] at this ⊢
      exact this
    · rw [hpar] at zc28
      have hlt : p < bP B c := nle_n zc28
      omega
    · rw [hpar] at zc28
      have hlt : p < bP B c := nle_n zc28
      omega
  | k + 1, p, h => by
    have hpar : f_par S 3 (nI c) = nI (bP B c) := bk_par hB hW (by omega)
    have hP2 := hW.2.1 c
    have hv := hV.1 (2 * c + p)
    refine (g_ld rfl rfl rfl (g_ld rfl rfl rfl (g_gr rfl rfl rfl rfl rfl (g_ld rfl rfl rfl (g_cv rfl (s_parametersOf (by decide)) (by omega) rfl rfl rfl rfl rfl rfl rfl rfl rfl (z_k1 (g_if rfl rfl (fun zc28 => (g_inc rfl rfl rfl rfl (g_go rfl ?_))) (fun zc28 => (g_ld rfl rfl rfl (g_ld rfl rfl rfl (g_ld rfl rfl rfl (g_cv rfl (s_wayOf (by decide)) (by omega) rfl rfl rfl rfl rfl rfl rfl rfl rfl (z_k1 (g_ld rfl rfl rfl (g_if rfl rfl (fun zc39 => (g_inc rfl rfl rfl rfl (g_go rfl ?_))) (fun zc39 => (g_inc rfl rfl rfl rfl (g_inc rfl rfl rfl rfl (g_go rfl ?_)))))))))))))))))))
    · rw [hpar] at zc28
      have := le_n zc28
      omega
    · rw [way_at hV hc (by omega)] at zc39
      have := lp_hgoI hB hW hV ht hc K k (p + 1) (by omega)
      rw [goP, if_neg (fun e => zc39 (by rw [e])), Nat.add_zero, nI_succ] at this
      exact this
    · rw [way_at hV hc (by omega)] at zc39
      have := lp_hgoI hB hW hV ht hc K k (p + 1) (by omega)
      rw [goP, if_pos (eq_n (Decidable.not_not.mp zc39)), ← Nat.add_assoc, nI_succ, nI_succ] at this
      exact this
theorem lp_hgo (hB : BkX S 3 B) (hW : WfB B) (hV : WyR S 30 V) (ht : t < 4) : ∀ (k c : Nat) (w : Option Value), c + k = bN B → Go (l, wX, D, ad, cA) 1 m_Ways_howManyGo (fun v S' => v = .int (nI (goC V (bP B) t (bN B))) ∧ S' = S) 4 [some (.ref 30), some (.int (nI t)), some (.int (nI (goC V (bP B) t c))), some (.int (nI c)), w] [] S
  | 0, c, w, h => by
    have h4 := hW.1
    have e : c = bN B := by omega
    refine (g_ld rfl rfl rfl (g_ld rfl rfl rfl (g_gr rfl rfl rfl rfl rfl (g_gi rfl rfl rfl rfl rfl (g_if rfl rfl (fun zc12 => (g_ld rfl rfl rfl (g_ri rfl rfl rfl ?_))) (fun zc12 => (g_c rfl rfl (g_st rfl rfl rfl rfl rfl ?_))))))))
    · rw [e]
      exact ⟨rfl, rfl⟩
    · rw [hB.1] at zc12
      have hlt : c < bN B := nle_n zc12
      omega
  | k + 1, c, w, h => by
    have h4 := hW.1
    have hc : c < 4 := by omega
    refine (g_ld rfl rfl rfl (g_ld rfl rfl rfl (g_gr rfl rfl rfl rfl rfl (g_gi rfl rfl rfl rfl rfl (g_if rfl rfl (fun zc12 => (g_ld rfl rfl rfl (g_ri rfl rfl rfl ?_))) (fun zc12 => (g_c rfl rfl (g_st rfl rfl rfl rfl rfl ?_))))))))
    · rw [hB.1] at zc12
      have := le_n zc12
      omega
    · exact lp_hgoI hB hW hV ht hc (fun w => lp_hgo hB hW hV ht k (c + 1) w (by omega)) (bP B c) 0 (by omega)
theorem s_howManyGo (hB : BkX S 3 B) (hW : WfB B) (hV : WyR S 30 V) (ht : t < 4) (hx : x = nI t) : Sp (l, wX, D, ad, cA) 1 m_Ways_howManyGo [.ref 30, .int x] S (fun v S' => v = .int (nI (goC V (bP B) t (bN B))) ∧ S' = S) := by
  subst hx
  refine Sp.of dk_Ways_howManyGo ok_Ways_howManyGo rfl (g_c rfl rfl (g_st rfl rfl rfl rfl rfl (g_c rfl rfl (g_st rfl rfl rfl rfl rfl ?_))))
  exact lp_hgo hB hW hV ht (bN B) 0 none (by omega)
end
