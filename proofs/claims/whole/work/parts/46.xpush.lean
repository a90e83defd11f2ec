/-! THE CLASS: pushing -/
theorem BO.agI {h h1 : sn_H} {w : sn_Lw} {b : sn_Bk} {ad ru a n : Nat} {ex : List Value} {f} (q : BO h w b ad ru ex) (hc : h[a]? = some (.inl (0, n, .inl f))) (g : AG h h1 a 1) : BO h1 w b ad ru ex := by
  obtain ⟨hB, fr, hF, hfr⟩ := q
  have k1 : ad ≠ a := fun e => by rw [e, hc] at hB; cases hB
  have k2 : ru ≠ a := fun e => by rw [e, hc] at hF; cases hF
  refine ⟨by rw [g.2 ad (by omega)]; exact hB, fr, by rw [g.2 ru (by omega)]; exact hF, fun j hj => ?_⟩
  obtain ⟨c, e1, e2⟩ := hfr j hj
  have k3 : c ≠ a := fun e => by rw [e, hc] at e2; cases e2
  exact ⟨c, e1, by rw [g.2 c (by omega)]; exact e2⟩
theorem row_upd {f : Nat → Int32} {g : Nat → Nat} {N : Nat} (hf : ∀ i, i < N → f i = nI (g i)) (p v : Nat) : ∀ i, i < N → upd f p (nI v) i = nI (uN g p v i) := by
  intro i hi
  unfold uN
  by_cases e : i = p
  · subst e; rw [if_pos rfl]; exact pk_us
  · rw [if_neg e, pk_un e]; exact hf i hi
def PU (h : sn_H) (a m : Nat) (g0 : Nat → Nat) (z : Option (Nat → Nat)) (r : Option Value) (h' : sn_H) : Prop := r = some (.int (b2i z.isSome)) ∧ AG h h' a 1 ∧ ∃ f' g', h'[a]? = some (.inl (0, 32, .inl f')) ∧ (∀ i, i < 32 → f' i = nI (g' i)) ∧ (∀ i, m ≤ i → g' i = g0 i) ∧ (∀ i, g' i ≤ 7) ∧ ∀ g1, z = some g1 → g' = g1
theorem PU.rc {h : sn_H} {a m : Nat} {g0 : Nat → Nat} {z : Option (Nat → Nat)} {r : Option Value} {h' : sn_H} (q : PU h a m g0 z r h') : sn_rc (some .boolean) r := by
  obtain ⟨rfl, _⟩ := q; exact b2i_rc _
theorem uN_le {g : Nat → Nat} {p v : Nat} (h : ∀ i, g i ≤ 7) (hv : v ≤ 7) (i : Nat) : uN g p v i ≤ 7 := by
  unfold uN; split; exact hv; exact h i
theorem PU.set {h h1 : sn_H} {a m : Nat} {g0 g1 : Nat → Nat} {f1 : Nat → Int32} (hA : AG h h1 a 1) (ha : h1[a]? = some (.inl (0, 32, .inl f1))) (hf : ∀ i, i < 32 → f1 i = nI (g1 i)) (hz : ∀ i, m ≤ i → g1 i = g0 i) (h7 : ∀ i, g1 i ≤ 7) {p v : Nat} (hp : p < m) (hv : v ≤ 7) {z : Option (Nat → Nat)} (e : z = some (uN g1 p v)) : PU h a m g0 z (some (.int (nI 1))) (h1.set a (.inl (0, 32, .inl (upd f1 p (nI v))))) := by
  subst e
  refine ⟨rfl, hA.trans (AG.set h1 _ (Nat.le_refl a) (by omega)), _, uN g1 p v, List.getElem?_set_self (cell_lt ha), row_upd hf p v, fun i hi => ?_, uN_le h7 hv, fun g2 e => by cases e; rfl⟩
  show uN g1 p v i = g0 i
  unfold uN
  rw [if_neg (by omega)]
  exact hz i hi
theorem e_U_pushInto (d : Nat) {h : sn_H} {w : sn_Lw} {b : sn_Bk} {ad ru a : Nat} {ex : List Value} (hw : WL w) (hb : WB w.1 b) (hO : BO h w b ad ru ex) (h3 : bk b = 3) {f : Nat → Int32} {g : Nat → Nat} (ha : h[a]? = some (.inl (0, 32, .inl f))) (hf : ∀ i, i < 32 → f i = nI (g i)) (h7 : ∀ i, g i ≤ 7) {y : Nat} {yv : Int32} (e1 : yv = nI y) (hy : y < 32) : SpP (d + 2) me_U_pushInto [.ref ad, .ref a, .int yv] h (PU h a (bm b) g (psh (bm b) g (frs w b y) (mrk w b 1 y))) := by
  subst e1
  have hm := hb.2.1
  have hB1 := hO.1
  rw [h3] at hB1
  have ha1 := ha
  have hfl := frs_lt (w := w) hb y
  have hmk := mrk_le (w := w) (b := b) 1 y
  have ho := oth_lt (frs w b y) (mrk w b 1 y) (show 0 < bm b by omega)
  have g1 := h7 (frs w b y)
  have g2 := h7 (oth (bm b) (frs w b y) (mrk w b 1 y))
  generalize hz : psh (bm b) g (frs w b y) (mrk w b 1 y) = z
  refine SpP.of ok_U_pushInto (fun r h' z => z.rc) rfl ?_
  have L : ∀ (n : Nat) (h1 : sn_H) (f1 : Nat → Int32) (g1 : Nat → Nat) (i : Nat) (p : Nat) (m : Nat) (pv : Int32) (mv : Int32) (v5 : Int32) (iv : Int32) (v7 : Value), (i + n = 8) → (AG h h1 a 1) → (h1[a]? = some (.inl (0, 32, .inl f1))) → (∀ i, i < 32 → f1 i = nI (g1 i)) → (∀ i, bm b ≤ i → g1 i = g i) → (∀ i, g1 i ≤ 7) → (p < bm b) → (m ≤ 7) → (pshF (bm b) n g1 p m = z) → (pv = nI p) → (mv = nI m) → (iv = nI i) → EvP o0 (d + 2) me_U_pushInto 56 [.ref ad, .ref a, .int (nI y), .int pv, .int mv, .int v5, .int iv, v7] [] h1 (PU h a (bm b) g z) := by
    intro n
    induction n using Nat.strongRecOn with
    | _ n ih =>
      intro h1 f1 g1 i p m pv mv v5 iv v7 k1 hA ha1 hf1 hz1 h71 hp hm7 hG e1 e2 e3
      subst e1
      subst e2
      subst e3
      refine EvP.s (fun _ _ K => Ev.go 2 rfl K) ?_
      refine EvP.ige rfl rfl rfl (by omega) (by omega) (fun c60 => ?_) (fun c60 => ?_)
      · refine EvP.s (fun _ _ K => Ev.go 1 rfl K) ?_
        refine ⟨_, _, Ev.reti rfl rfl, ?_⟩
        have e0 : n = 0 := by omega
        subst e0
        have hG : none = z := hG
        subst hG
        exact ⟨rfl, hA, f1, g1, ha1, hf1, hz1, h71, fun _ e => by cases e⟩
      obtain ⟨n, rfl⟩ : ∃ z, n = z + 1 := ⟨n - 1, by omega⟩
      have hgp := h71 p
      have hop := oth_lt p (g1 p) (show 0 < bm b by omega)
      refine EvP.s (fun _ _ K => Ev.go 2 rfl K) ?_
      refine EvP.s (fun _ _ K => Ev.iln rfl ha1 rfl (by omega) (by omega) K) ?_
      rw [hf1 p (by omega)]
      refine EvP.s (fun _ _ K => Ev.go 4 rfl K) ?_
      refine EvP.s (fun _ _ K => Ev.isn rfl ha1 rfl (by omega) (by omega) K) ?_
      have hf1 := row_upd hf1 p m
      have ha1 : (h1.set a (.inl (0, 32, .inl (upd f1 p (nI m)))))[a]? = some (.inl (0, 32, .inl (upd f1 p (nI m)))) := List.getElem?_set_self (cell_lt ha1)
      have hA := hA.trans (AG.set h1 (.inl (0, 32, .inl (upd f1 p (nI m)))) (Nat.le_refl a) (by omega))
      have hz1 : ∀ i, bm b ≤ i → uN g1 p m i = g i := fun i hi => (if_neg (by omega)).trans (hz1 i hi)
      generalize h1.set a (.inl (0, 32, .inl (upd f1 p (nI m)))) = h2 at ha1 hA ⊢
      have hO1 := hO.agI ha hA
      have hB1 := hO1.1
      rw [h3] at hB1
      refine EvP.s (fun _ _ K => Ev.go 5 rfl K) ?_
      refine EvP.s (fun _ _ K => Ev.cv (E' := me_U_otherPlace) rfl mk_U_otherPlace lv_6_51_6 rfl hB1 rfl (e_U_otherPlace d hw hb hO1 h3 rfl rfl hp (by omega)) K) ?_
      refine EvP.s (fun _ _ K => Ev.go 3 rfl K) ?_
      refine EvP.s (fun _ _ K => Ev.iln rfl ha1 rfl (by omega) (by omega) K) ?_
      rw [hf1 _ (by omega)]
      refine EvP.zne rfl rfl (by have := uN_le (p := p) h71 hm7 (oth (bm b) p (g1 p)); omega) (fun c88 => ?_) (fun c88 => ?_)
      · refine EvP.s (fun _ _ K => Ev.go 2 rfl K) ?_
        exact ih n (by omega) h2 _ (uN g1 p m) (i + 1) (oth (bm b) p (g1 p)) (g1 p) _ _ _ _ _ (by omega) hA ha1 hf1 hz1 (uN_le h71 hm7) hop hgp (by rw [← hG]; simp only [pshF]; rw [if_neg (by omega)]) rfl rfl (by rw [nI_add])
      refine EvP.s (fun _ _ K => Ev.go 3 rfl K) ?_
      refine EvP.s (fun _ _ K => Ev.isn rfl ha1 rfl (by omega) (by omega) K) ?_
      refine EvP.s (fun _ _ K => Ev.go 1 rfl K) ?_
      refine ⟨_, _, Ev.reti rfl rfl, ?_⟩
      exact PU.set hA ha1 hf1 hz1 (uN_le h71 hm7) hop hgp (by rw [← hG]; simp only [pshF]; rw [if_pos c88])
  refine EvP.s (fun _ _ K => Ev.go 2 rfl K) ?_
  refine EvP.s (fun _ _ K => Ev.cv (E' := me_U_firstPlace) rfl mk_U_firstPlace lv_6_45_6 rfl hB1 rfl (e_U_firstPlace d hw hb hO h3 rfl hy) K) ?_
  refine EvP.s (fun _ _ K => Ev.go 3 rfl K) ?_
  refine EvP.s (fun _ _ K => Ev.cv (E' := me_U_markOf) rfl mk_U_markOf lv_6_48_6 rfl hB1 rfl (e_U_markOf d hw hb hO h3 rfl hy) K) ?_
  refine EvP.s (fun _ _ K => Ev.go 4 rfl K) ?_
  refine EvP.s (fun _ _ K => Ev.cv (E' := me_U_otherPlace) rfl mk_U_otherPlace lv_6_51_6 rfl hB1 rfl (e_U_otherPlace d hw hb hO h3 rfl rfl hfl (by omega)) K) ?_
  refine EvP.s (fun _ _ K => Ev.go 3 rfl K) ?_
  refine EvP.s (fun _ _ K => Ev.iln rfl ha1 rfl (by omega) (by omega) K) ?_
  rw [hf _ (by omega)]
  refine EvP.zeq rfl rfl (by omega) (fun c25 => ?_) (fun c25 => ?_)
  · refine EvP.s (fun _ _ K => Ev.go 3 rfl K) ?_
    refine EvP.s (fun _ _ K => Ev.iln rfl ha1 rfl (by omega) (by omega) K) ?_
    rw [hf _ (by omega)]
    refine EvP.zne rfl rfl (by omega) (fun c39 => ?_) (fun c39 => ?_)
    · refine EvP.s (fun _ _ K => Ev.go 2 rfl K) ?_
      refine EvP.s (fun _ _ K => Ev.isn rfl ha1 rfl (by omega) (by omega) K) ?_
      refine EvP.s (fun _ _ K => Ev.go 1 rfl K) ?_
      exact ⟨_, _, Ev.reti rfl rfl, (absurd c39 (by omega))⟩
    refine EvP.s (fun _ _ K => Ev.go 2 rfl K) ?_
    refine EvP.s (fun _ _ K => Ev.go 1 rfl K) ?_
    refine EvP.s (fun _ _ K => Ev.isn rfl ha1 rfl (by omega) (by omega) K) ?_
    refine EvP.s (fun _ _ K => Ev.go 1 rfl K) ?_
    exact ⟨_, _, Ev.reti rfl rfl, PU.set (AG.refl _ _ _) ha hf (fun _ _ => rfl) h7 hfl (by omega) (by rw [← hz]; exact if_pos c39)⟩
  refine EvP.s (fun _ _ K => Ev.go 2 rfl K) ?_
  refine EvP.s (fun _ _ K => Ev.iln rfl ha1 rfl (by omega) (by omega) K) ?_
  rw [hf _ (by omega)]
  refine EvP.zne rfl rfl (by omega) (fun c32 => ?_) (fun c32 => ?_)
  · refine EvP.s (fun _ _ K => Ev.go 2 rfl K) ?_
    exact L 8 h f g 0 _ _ _ _ _ _ _ (by omega) (AG.refl _ _ _) ha hf (fun _ _ => rfl) h7 hfl (by omega) (by rw [← hz]; unfold psh; rw [if_neg (by omega), if_neg (by omega)]) rfl rfl rfl
  refine EvP.s (fun _ _ K => Ev.go 3 rfl K) ?_
  refine EvP.s (fun _ _ K => Ev.iln rfl ha1 rfl (by omega) (by omega) K) ?_
  rw [hf _ (by omega)]
  refine EvP.zne rfl rfl (by omega) (fun c39 => ?_) (fun c39 => ?_)
  · refine EvP.s (fun _ _ K => Ev.go 2 rfl K) ?_
    refine EvP.s (fun _ _ K => Ev.isn rfl ha1 rfl (by omega) (by omega) K) ?_
    refine EvP.s (fun _ _ K => Ev.go 1 rfl K) ?_
    exact ⟨_, _, Ev.reti rfl rfl, PU.set (AG.refl _ _ _) ha hf (fun _ _ => rfl) h7 ho (by omega) (by rw [← hz]; exact (if_neg (by omega)).trans (if_pos c32))⟩
  refine EvP.s (fun _ _ K => Ev.go 2 rfl K) ?_
  refine EvP.s (fun _ _ K => Ev.go 1 rfl K) ?_
  refine EvP.s (fun _ _ K => Ev.isn rfl ha1 rfl (by omega) (by omega) K) ?_
  refine EvP.s (fun _ _ K => Ev.go 1 rfl K) ?_
  exact ⟨_, _, Ev.reti rfl rfl, (absurd c39 (by omega))⟩
