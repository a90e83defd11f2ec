/-! THE CLASS: law -/
theorem e_W_init (d : Nat) {h : sn_H} {ad : Nat} {v0 v1 : Value} (hL : h[ad]? = some (.inr (2, [v0, v1]))) (x y : Int32) : Sp (d + 1) me_W_init [.ref ad, .int x, .int y] h none (h.set ad (.inr (2, [.int x, .int y]))) := by
  refine Sp.of ok_W_init trivial rfl ?_
  refine Ev.go 1 rfl ?_
  refine Ev.oi rfl lo_2_3 lo_i lo_c rfl ?_
  refine Ev.go 2 rfl ?_
  refine Ev.pf rfl lp_W_init_9_2 hL rfl rfl ?_
  have hL : (h.set ad (.inr (2, [.int x, v1])))[ad]? = some (.inr (2, [.int x, v1])) := List.getElem?_set_self (cell_lt hL)
  refine Ev.go 2 rfl ?_
  refine Ev.pf rfl lp_W_init_15_2 hL rfl rfl ?_
  rw [List.set_set]
  exact Ev.retv rfl
theorem XO.c3 {h : sn_H} {μ : sn_S} {fl fb : Nat → Option Nat} {ad ru : Nat → Nat} {cv : Value} (o : XO h μ fl fb ad ru cv) : C3 h := ⟨⟨_, o.1⟩, ⟨_, o.2.1⟩, ⟨_, o.2.2.1⟩⟩
theorem XO.addL {h h' : sn_H} {μ : sn_S} {fl fb : Nat → Option Nat} {ad ru : Nat → Nat} {cv : Value} (ws : WS μ) (o : XO h μ fl fb ad ru cv) {a b : Nat} (g : GR h h') (k1 : h'[1]? = some (.inr (0, [.ref 2, .int (nI ((sw μ).1 + 1)), .ref 3, .int (nI (snb μ)), .ref 4, cv]))) (k2 : h'[2]? = some (.inl (3, 8, .inr (.inr (.inr (.inr (va_up fl (sw μ).1 (some h.length)))))))) (k3 : h'[3]? = h[3]?) (k4 : h'[h.length]? = some (.inr (2, [.int (nI a), .int (nI b)]))) : XO h' (addL μ a b) (va_up fl (sw μ).1 (some h.length)) fb ad ru cv := by
  have c := o.c3
  obtain ⟨o1, o2, o3, o4, o5, o6, o7, o8⟩ := o
  refine ⟨k1, k2, by rw [k3]; exact o3, o4.gr g (by omega), o5.gr g, fun l hl => ?_, fun k hk => ?_, o8⟩
  · have hl : l < (sw μ).1 + 1 := hl
    by_cases e : l = (sw μ).1
    · subst e
      refine ⟨h.length, va_up_self _ _ _, ?_⟩
      rw [k4]
      show _ = some (Sum.inr (2, [Value.int (nI (uN (sw μ).2.1 (sw μ).1 a (sw μ).1)), Value.int (nI (uN (sw μ).2.2 (sw μ).1 b (sw μ).1))]))
      unfold uN
      rw [if_pos rfl, if_pos rfl]
    · obtain ⟨c1, e1, e2⟩ := o6 l (by omega)
      refine ⟨c1, (va_up_ne _ _ e).trans e1, ?_⟩
      show _ = some (Sum.inr (2, [Value.int (nI (uN (sw μ).2.1 (sw μ).1 a l)), Value.int (nI (uN (sw μ).2.2 (sw μ).1 b l))]))
      unfold uN
      rw [if_neg e, if_neg e]
      exact g.law c e2
  · obtain ⟨e1, e2, e3⟩ := o7 k hk
    have hb := ws.2.2 k hk
    refine ⟨e1, e2, e3.gr hb e2 c g (fun j hj => ?_)⟩
    have hn := (hb.nt ws.1 hj).1
    exact ⟨if_neg (by omega), if_neg (by omega)⟩
