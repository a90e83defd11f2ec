/-! A BOOK IS KEPT -/
theorem XO.moreB {h h' : sn_H} {μ : sn_S} {fl fb : Nat → Option Nat} {ad ru : Nat → Nat} {cv : Value} (ws : WS μ) (o : XO h μ fl fb ad ru cv) (h27 : 27 ≤ h.length) {b : sn_Bk} {ru' : Nat} (g : GR h h') (k1 : h'[1]? = some (.inr (0, [.ref 2, .int (nI (sw μ).1), .ref 3, .int (nI (snb μ + 1)), .ref 4, cv]))) (k2 : h'[2]? = h[2]?) (k3 : h'[3]? = some (.inl (4, 8, .inr (.inr (.inr (.inr (va_up fb (snb μ) (some h.length)))))))) (hlen : ∀ j, j < snb μ → ad j + bln (sbk μ j) ≤ h.length) (q : BR h' (sw μ) b h.length ru') : XO h' (addB μ b) fl (va_up fb (snb μ) (some h.length)) (va_up ad (snb μ) h.length) (va_up ru (snb μ) ru') cv := by
  have c := o.c3
  obtain ⟨o1, o2, o3, o4, o5, o6, o7, o8⟩ := o
  have hold : ∀ j, j < snb μ → sbk (addB μ b) j = sbk μ j := fun j hj => if_neg (by omega)
  have hnew : sbk (addB μ b) (snb μ) = b := if_pos rfl
  refine ⟨k1, by rw [k2]; exact o2, k3, o4.gr g (by omega), o5.gr g, fun l hl => ?_, fun k hk => ?_, fun i j hij hj => ?_⟩
  · obtain ⟨a, e1, e2⟩ := o6 l hl
    exact ⟨a, e1, g.law c e2⟩
  · have hk : k < snb μ + 1 := hk
    by_cases e : k = snb μ
    · subst e
      rw [hnew, va_up_self, va_up_self, va_up_self]
      exact ⟨rfl, h27, q⟩
    · obtain ⟨e1, e2, e3⟩ := o7 k (by omega)
      rw [hold k (by omega), va_up_ne _ _ e, va_up_ne _ _ e, va_up_ne _ _ e]
      exact ⟨e1, e2, e3.gr (ws.2.2 k (by omega)) e2 c g (fun _ _ => ⟨rfl, rfl⟩)⟩
  · have hj : j < snb μ + 1 := hj
    rw [hold i (by omega), va_up_ne _ _ (show i ≠ snb μ by omega)]
    by_cases e : j = snb μ
    · subst e; rw [va_up_self]; exact hlen i hij
    · rw [va_up_ne _ _ e]; exact o8 i j hij (by omega)
