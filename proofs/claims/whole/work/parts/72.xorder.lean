/-! THE CLASS: order -/
def PUm (h : sn_H) (a m : Nat) (g0 : Nat → Nat) (z : Option (Nat → Nat)) (r : Option Value) (h' : sn_H) : Prop := r = some (.int (b2i z.isSome)) ∧ AG h h' a 1 ∧ ∃ f' g', h'[a]? = some (.inl (0, 32, .inl f')) ∧ (∀ i, i < m → f' i = nI (g' i)) ∧ (∀ i, m ≤ i → g' i = g0 i) ∧ (∀ i, g' i ≤ 7) ∧ ∀ g1, z = some g1 → g' = g1
theorem PUm.rc {h : sn_H} {a m : Nat} {g0 : Nat → Nat} {z : Option (Nat → Nat)} {r : Option Value} {h' : sn_H} (q : PUm h a m g0 z r h') : sn_rc (some .boolean) r := by
  obtain ⟨rfl, _⟩ := q; exact b2i_rc _
theorem PUm.set {h h1 : sn_H} {a m : Nat} {g0 g1 : Nat → Nat} {f1 : Nat → Int32} (hA : AG h h1 a 1) (ha : h1[a]? = some (.inl (0, 32, .inl f1))) (hf : ∀ i, i < m → f1 i = nI (g1 i)) (hz : ∀ i, m ≤ i → g1 i = g0 i) (h7 : ∀ i, g1 i ≤ 7) {p v : Nat} (hp : p < m) (hv : v ≤ 7) {z : Option (Nat → Nat)} (e : z = some (uN g1 p v)) : PUm h a m g0 z (some (.int (nI 1))) (h1.set a (.inl (0, 32, .inl (upd f1 p (nI v))))) := by
  subst e
  refine ⟨rfl, hA.trans (AG.set h1 _ (Nat.le_refl a) (by omega)), _, uN g1 p v, List.getElem?_set_self (cell_lt ha), row_upd hf p v, fun i hi => ?_, uN_le h7 hv, fun g2 e => by cases e; rfl⟩
  show uN g1 p v i = g0 i
  unfold uN
  rw [if_neg (by omega)]
  exact hz i hi
theorem e_U_pushM (d : Nat) {h : sn_H} {w : sn_Lw} {b : sn_Bk} {ad ru a : Nat} {ex : List Value} (hw : WL w) (hb : WB w.1 b) (hO : BO h w b ad ru ex) (h3 : bk b = 3) {f : Nat → Int32} {g : Nat → Nat} (ha : h[a]? = some (.inl (0, 32, .inl f))) (hf : ∀ i, i < bm b → f i = nI (g i)) (h7 : ∀ i, g i ≤ 7) {y : Nat} {yv : Int32} (e1 : yv = nI y) (hy : y < 32) : SpP (d + 2) me_U_pushInto [.ref ad, .ref a, .int yv] h (PUm h a (bm b) g (psh (bm b) g (frs w b y) (mrk w b 1 y))) := by
  subst e1
  have hm := hb.2.1
  have hB1 := hO.1
  rw [h3] at hB1
  have ha1 := ha
  have hfl := frs_lt (w := w) hb y
  have hmk := mrk_le (w := w) (b := b) 1 y
  have ho := oth_lt (frs w b y) (mrk w b 1 y) (show 0 < bm b by omega)
  have g1 := h7 (frs w b y)
  have g2 := h7 (oth (bm b) (frs w b y) (mrk w b 1 y))
  generalize hz : psh (bm b) g (frs w b y) (mrk w b 1 y) = z
  refine SpP.of ok_U_pushInto (fun r h' z => z.rc) rfl ?_
  have L : ∀ (n : Nat) (h1 : sn_H) (f1 : Nat → Int32) (g1 : Nat → Nat) (i : Nat) (p : Nat) (m : Nat) (pv : Int32) (mv : Int32) (v5 : Int32) (iv : Int32) (v7 : Value), (i + n = 8) → (AG h h1 a 1) → (h1[a]? = some (.inl (0, 32, .inl f1))) → (∀ i, i < bm b → f1 i = nI (g1 i)) → (∀ i, bm b ≤ i → g1 i = g i) → (∀ i, g1 i ≤ 7) → (p < bm b) → (m ≤ 7) → (pshF (bm b) n g1 p m = z) → (pv = nI p) → (mv = nI m) → (iv = nI i) → EvP o0 (d + 2) me_U_pushInto 56 [.ref ad, .ref a, .int (nI y), .int pv, .int mv, .int v5, .int iv, v7] [] h1 (PUm h a (bm b) g z) := by
    intro n
    induction n using Nat.strongRecOn with
    | _ n ih =>
      intro h1 f1 g1 i p m pv mv v5 iv v7 k1 hA ha1 hf1 hz1 h71 hp hm7 hG e1 e2 e3
      subst e1
      subst e2
      subst e3
      refine EvP.s (fun _ _ K => Ev.go 2 rfl K) ?_
      refine EvP.ige rfl rfl rfl (by omega) (by omega) (fun c60 => ?_) (fun c60 => ?_)
      · refine EvP.s (fun _ _ K => Ev.go 1 rfl K) ?_
        refine ⟨_, _, Ev.reti rfl rfl, ?_⟩
        have e0 : n = 0 := by omega
        subst e0
        have hG : none = z := hG
        subst hG
        exact ⟨rfl, hA, f1, g1, ha1, hf1, hz1, h71, fun _ e => by cases e⟩
      obtain ⟨n, rfl⟩ : ∃ z, n = z + 1 := ⟨n - 1, by omega⟩
      have hgp := h71 p
      have hop := oth_lt p (g1 p) (show 0 < bm b by omega)
      refine EvP.s (fun _ _ K => Ev.go 2 rfl K) ?_
      refine EvP.s (fun _ _ K => Ev.iln rfl ha1 rfl (by omega) (by omega) K) ?_
      rw [hf1 p (by omega)]
      refine EvP.s (fun _ _ K => Ev.go 4 rfl K) ?_
      refine EvP.s (fun _ _ K => Ev.isn rfl ha1 rfl (by omega) (by omega) K) ?_
      have hf1 := row_upd hf1 p m
      have ha1 : (h1.set a (.inl (0, 32, .inl (upd f1 p (nI m)))))[a]? = some (.inl (0, 32, .inl (upd f1 p (nI m)))) := List.getElem?_set_self (cell_lt ha1)
      have hA := hA.trans (AG.set h1 (.inl (0, 32, .inl (upd f1 p (nI m)))) (Nat.le_refl a) (by omega))
      have hz1 : ∀ i, bm b ≤ i → uN g1 p m i = g i := fun i hi => (if_neg (by omega)).trans (hz1 i hi)
      generalize h1.set a (.inl (0, 32, .inl (upd f1 p (nI m)))) = h2 at ha1 hA ⊢
      have hO1 := hO.agI ha hA
      have hB1 := hO1.1
      rw [h3] at hB1
      refine EvP.s (fun _ _ K => Ev.go 5 rfl K) ?_
      refine EvP.s (fun _ _ K => Ev.cv (E' := me_U_otherPlace) rfl mk_U_otherPlace lv_6_51_6 rfl hB1 rfl (e_U_otherPlace d hw hb hO1 h3 rfl rfl hp (by omega)) K) ?_
      refine EvP.s (fun _ _ K => Ev.go 3 rfl K) ?_
      refine EvP.s (fun _ _ K => Ev.iln rfl ha1 rfl (by omega) (by omega) K) ?_
      rw [hf1 _ (by omega)]
      refine EvP.zne rfl rfl (by have := uN_le (p := p) h71 hm7 (oth (bm b) p (g1 p)); omega) (fun c88 => ?_) (fun c88 => ?_)
      · refine EvP.s (fun _ _ K => Ev.go 2 rfl K) ?_
        exact ih n (by omega) h2 _ (uN g1 p m) (i + 1) (oth (bm b) p (g1 p)) (g1 p) _ _ _ _ _ (by omega) hA ha1 hf1 hz1 (uN_le h71 hm7) hop hgp (by rw [← hG]; simp only [pshF]; rw [if_neg (by omega)]) rfl rfl (by rw [nI_add])
      refine EvP.s (fun _ _ K => Ev.go 3 rfl K) ?_
      refine EvP.s (fun _ _ K => Ev.isn rfl ha1 rfl (by omega) (by omega) K) ?_
      refine EvP.s (fun _ _ K => Ev.go 1 rfl K) ?_
      refine ⟨_, _, Ev.reti rfl rfl, ?_⟩
      exact PUm.set hA ha1 hf1 hz1 (uN_le h71 hm7) hop hgp (by rw [← hG]; simp only [pshF]; rw [if_pos c88])
  refine EvP.s (fun _ _ K => Ev.go 2 rfl K) ?_
  refine EvP.s (fun _ _ K => Ev.cv (E' := me_U_firstPlace) rfl mk_U_firstPlace lv_6_45_6 rfl hB1 rfl (e_U_firstPlace d hw hb hO h3 rfl hy) K) ?_
  refine EvP.s (fun _ _ K => Ev.go 3 rfl K) ?_
  refine EvP.s (fun _ _ K => Ev.cv (E' := me_U_markOf) rfl mk_U_markOf lv_6_48_6 rfl hB1 rfl (e_U_markOf d hw hb hO h3 rfl hy) K) ?_
  refine EvP.s (fun _ _ K => Ev.go 4 rfl K) ?_
  refine EvP.s (fun _ _ K => Ev.cv (E' := me_U_otherPlace) rfl mk_U_otherPlace lv_6_51_6 rfl hB1 rfl (e_U_otherPlace d hw hb hO h3 rfl rfl hfl (by omega)) K) ?_
  refine EvP.s (fun _ _ K => Ev.go 3 rfl K) ?_
  refine EvP.s (fun _ _ K => Ev.iln rfl ha1 rfl (by omega) (by omega) K) ?_
  rw [hf _ (by omega)]
  refine EvP.zeq rfl rfl (by omega) (fun c25 => ?_) (fun c25 => ?_)
  · refine EvP.s (fun _ _ K => Ev.go 3 rfl K) ?_
    refine EvP.s (fun _ _ K => Ev.iln rfl ha1 rfl (by omega) (by omega) K) ?_
    rw [hf _ (by omega)]
    refine EvP.zne rfl rfl (by omega) (fun c39 => ?_) (fun c39 => ?_)
    · refine EvP.s (fun _ _ K => Ev.go 2 rfl K) ?_
      refine EvP.s (fun _ _ K => Ev.isn rfl ha1 rfl (by omega) (by omega) K) ?_
      refine EvP.s (fun _ _ K => Ev.go 1 rfl K) ?_
      exact ⟨_, _, Ev.reti rfl rfl, (absurd c39 (by omega))⟩
    refine EvP.s (fun _ _ K => Ev.go 2 rfl K) ?_
    refine EvP.s (fun _ _ K => Ev.go 1 rfl K) ?_
    refine EvP.s (fun _ _ K => Ev.isn rfl ha1 rfl (by omega) (by omega) K) ?_
    refine EvP.s (fun _ _ K => Ev.go 1 rfl K) ?_
    exact ⟨_, _, Ev.reti rfl rfl, PUm.set (AG.refl _ _ _) ha hf (fun _ _ => rfl) h7 hfl (by omega) (by rw [← hz]; exact if_pos c39)⟩
  refine EvP.s (fun _ _ K => Ev.go 2 rfl K) ?_
  refine EvP.s (fun _ _ K => Ev.iln rfl ha1 rfl (by omega) (by omega) K) ?_
  rw [hf _ (by omega)]
  refine EvP.zne rfl rfl (by omega) (fun c32 => ?_) (fun c32 => ?_)
  · refine EvP.s (fun _ _ K => Ev.go 2 rfl K) ?_
    exact L 8 h f g 0 _ _ _ _ _ _ _ (by omega) (AG.refl _ _ _) ha hf (fun _ _ => rfl) h7 hfl (by omega) (by rw [← hz]; unfold psh; rw [if_neg (by omega), if_neg (by omega)]) rfl rfl rfl
  refine EvP.s (fun _ _ K => Ev.go 3 rfl K) ?_
  refine EvP.s (fun _ _ K => Ev.iln rfl ha1 rfl (by omega) (by omega) K) ?_
  rw [hf _ (by omega)]
  refine EvP.zne rfl rfl (by omega) (fun c39 => ?_) (fun c39 => ?_)
  · refine EvP.s (fun _ _ K => Ev.go 2 rfl K) ?_
    refine EvP.s (fun _ _ K => Ev.isn rfl ha1 rfl (by omega) (by omega) K) ?_
    refine EvP.s (fun _ _ K => Ev.go 1 rfl K) ?_
    exact ⟨_, _, Ev.reti rfl rfl, PUm.set (AG.refl _ _ _) ha hf (fun _ _ => rfl) h7 ho (by omega) (by rw [← hz]; exact (if_neg (by omega)).trans (if_pos c32))⟩
  refine EvP.s (fun _ _ K => Ev.go 2 rfl K) ?_
  refine EvP.s (fun _ _ K => Ev.go 1 rfl K) ?_
  refine EvP.s (fun _ _ K => Ev.isn rfl ha1 rfl (by omega) (by omega) K) ?_
  refine EvP.s (fun _ _ K => Ev.go 1 rfl K) ?_
  exact ⟨_, _, Ev.reti rfl rfl, (absurd c39 (by omega))⟩
def PAf (h : sn_H) (ad : Nat) (v : Bool) (r : Option Value) (h' : sn_H) : Prop := r = some (.int (b2i v)) ∧ AG h h' (ad + 4) 1 ∧ IR h' (ad + 4) 32
theorem PAf.rc {h : sn_H} {ad : Nat} {v : Bool} {r : Option Value} {h' : sn_H} (q : PAf h ad v r h') : sn_rc (some .boolean) r := by
  obtain ⟨rfl, _⟩ := q; exact b2i_rc _
theorem gD_cons {ks : List Nat} {i : Nat} (h : i < ks.length) : ks.drop i = gD ks i :: ks.drop (i + 1) := by
  rw [List.drop_eq_getElem_cons h]
  congr 1
  unfold gD
  rw [List.getD_eq_getElem?_getD, List.getElem?_eq_getElem h]
  rfl
theorem e_U_allFindPlaces (d : Nat) {h : sn_H} {w : sn_Lw} {b : sn_Bk} {ad ru : Nat} (hw : WL w) (hb : WB w.1 b) (h3 : bk b = 3) (hO : BO h w b ad ru (bex b ad)) {f0 : Nat → Int32} (hT0 : h[ad + 4]? = some (.inl (0, 32, .inl f0))) {fl : Nat → Int32} (hL0 : h[ad + 5]? = some (.inl (0, 6, .inl fl))) {ks : List Nat} {m : Nat} {mv : Int32} (e1 : mv = nI m) (hm6 : m ≤ 6) (hl : ks.length = m) (hks : ∀ i, i < m → fl i = nI (gD ks i)) (hk32 : ∀ i, i < m → gD ks i < 32) : SpP (d + 3) me_U_allFindPlaces [.ref ad, .int mv] h (PAf h ad (goA w b ks (fun _ => 0))) := by
  subst e1
  have hbx : bex b ad = [.ref (ad + 3), .ref (ad + 4), .ref (ad + 5), .ref (ad + 6)] := if_pos h3
  have hm := hb.2.1
  refine SpP.of ok_U_allFindPlaces (fun r h' z => z.rc) rfl ?_
  have L2 : ∀ (n : Nat) (h1 : sn_H) (f : Nat → Int32) (g : Nat → Nat) (i : Nat) (iv : Int32), (i + n = m) → (AG h h1 (ad + 4) 1) → (h1[ad + 4]? = some (.inl (0, 32, .inl f))) → (∀ j, j < bm b → f j = nI (g j)) → (∀ j, g j ≤ 7) → (goA w b (ks.drop i) g = goA w b ks (fun _ => 0)) → (iv = nI i) → EvP o0 (d + 3) me_U_allFindPlaces 25 [.ref ad, .int (nI m), .int iv] [] h1 (PAf h ad (goA w b ks (fun _ => 0))) := by
    intro n
    induction n using Nat.strongRecOn with
    | _ n ih =>
      intro h1 f g i iv k1 hA hT hf h7 hR e3
      subst e3
      have hO1 := hO.agI hT0 hA
      have hB := hO1.1
      rw [h3, hbx] at hB
      have hLn : h1[ad + 5]? = _ := (hA.2 (ad + 5) (by omega)).trans hL0
      refine EvP.s (fun _ _ K => Ev.go 2 rfl K) ?_
      refine EvP.ige rfl rfl rfl (by omega) (by omega) (fun c27 => ?_) (fun c27 => ?_)
      · refine EvP.s (fun _ _ K => Ev.go 1 rfl K) ?_
        refine ⟨_, _, Ev.reti rfl rfl, ?_⟩
        refine ⟨?_, hA, f, hT⟩
        rw [← hR, List.drop_eq_nil_of_le (by omega)]
        rfl
      refine EvP.s (fun _ _ K => Ev.go 2 rfl K) ?_
      refine EvP.s (fun _ _ K => Ev.gf rfl lf_6_15_6 hB rfl K) ?_
      refine EvP.s (fun _ _ K => Ev.go 1 rfl K) ?_
      refine EvP.s (fun _ _ K => Ev.gf rfl lf_6_18_6 hB rfl K) ?_
      refine EvP.s (fun _ _ K => Ev.go 1 rfl K) ?_
      refine EvP.s (fun _ _ K => Ev.iln rfl hLn rfl (by omega) (by omega) K) ?_
      rw [hks i (by omega)]
      obtain ⟨r2, h2, sp2, er, hA2, f2, g2, hT2, hf2, _, h72, hz2⟩ := e_U_pushM (d := d) (a := ad + 4) hw hb hO1 h3 hT hf h7 (rfl : nI (gD ks i) = _) (hk32 i (by omega))
      subst er
      have hdr := gD_cons (ks := ks) (i := i) (by omega)
      rw [hdr] at hR
      refine EvP.s (fun _ _ K => Ev.cv (E' := me_U_pushInto) rfl mk_U_pushInto lv_6_63_6 rfl hB rfl (sp2) K) ?_
      refine EvP.zn rfl rfl (fun c44 => ?_) (fun c44 => ?_)
      · refine EvP.s (fun _ _ K => Ev.go 2 rfl K) ?_
        cases hps : psh (bm b) g (frs w b (gD ks i)) (mrk w b 1 (gD ks i)) with
        | none => rw [hps] at c44; cases c44
        | some g' =>
          have eg := hz2 g' hps
          subst eg
          refine ih (n - 1) (by omega) h2 f2 g2 (i + 1) _ (by omega) (hA.trans hA2) hT2 hf2 h72 ?_ (by rw [nI_add])
          rw [← hR]
          show _ = (match psh _ _ _ _ with | none => false | some g' => _)
          rw [hps]
      refine EvP.s (fun _ _ K => Ev.go 1 rfl K) ?_
      refine ⟨_, _, Ev.reti rfl rfl, ?_⟩
      refine ⟨?_, hA.trans hA2, f2, hT2⟩
      rw [← hR]
      show _ = some (Value.int (b2i (match psh _ _ _ _ with | none => false | some g' => _)))
      cases hps : psh (bm b) g (frs w b (gD ks i)) (mrk w b 1 (gD ks i)) with
      | none => rfl
      | some g' => rw [hps] at c44; cases c44
  have L1 : ∀ (n : Nat) (h1 : sn_H) (f : Nat → Int32) (i : Nat) (iv : Int32), (i + n = bm b) → (AG h h1 (ad + 4) 1) → (h1[ad + 4]? = some (.inl (0, 32, .inl f))) → (∀ j, j < i → f j = nI 0) → (iv = nI i) → EvP o0 (d + 3) me_U_allFindPlaces 2 [.ref ad, .int (nI m), .int iv] [] h1 (PAf h ad (goA w b ks (fun _ => 0))) := by
    intro n
    induction n using Nat.strongRecOn with
    | _ n ih =>
      intro h1 f i iv k1 hA hT hf e3
      subst e3
      have hO1 := hO.agI hT0 hA
      have hB := hO1.1
      rw [h3, hbx] at hB
      have hLn : h1[ad + 5]? = _ := (hA.2 (ad + 5) (by omega)).trans hL0
      refine EvP.s (fun _ _ K => Ev.go 2 rfl K) ?_
      refine EvP.s (fun _ _ K => Ev.gf rfl lf_6_28_6 hB rfl K) ?_
      refine EvP.ige rfl rfl rfl (by omega) (by omega) (fun c7 => ?_) (fun c7 => ?_)
      · refine EvP.s (fun _ _ K => Ev.go 2 rfl K) ?_
        exact L2 m h1 f (fun _ => 0) 0 _ (by omega) hA hT (fun j hj => hf j (by omega)) (fun _ => by omega) rfl rfl
      refine EvP.s (fun _ _ K => Ev.go 1 rfl K) ?_
      refine EvP.s (fun _ _ K => Ev.gf rfl lf_6_15_6 hB rfl K) ?_
      refine EvP.s (fun _ _ K => Ev.go 2 rfl K) ?_
      refine EvP.s (fun _ _ K => Ev.isn rfl hT rfl (by omega) (by omega) K) ?_
      refine EvP.s (fun _ _ K => Ev.go 2 rfl K) ?_
      refine ih (n - 1) (by omega) _ _ (i + 1) _ (by omega) (hA.trans (AG.set h1 _ (by omega) (by omega))) (List.getElem?_set_self (cell_lt hT)) (fun j hj => ?_) (by rw [nI_add])
      by_cases e : j = i
      · subst e; exact pk_us
      · rw [pk_un e]; exact hf j (by omega)
  refine EvP.s (fun _ _ K => Ev.go 2 rfl K) ?_
  exact L1 (bm b) h f0 0 _ (by omega) (AG.refl _ _ _) hT0 (fun j hj => absurd hj (Nat.not_lt_zero j)) rfl
theorem e_U_swapInLine (d : Nat) {h : sn_H} {b : sn_Bk} {ad ru : Nat} (hB0 : h[ad]? = some (.inr (6, bfs b ad ru [.ref (ad + 3), .ref (ad + 4), .ref (ad + 5), .ref (ad + 6)]))) {f : Nat → Int32} (hL0 : h[ad + 5]? = some (.inl (0, 6, .inl f))) {a c : Nat} {av cv : Int32} (e1 : av = nI a) (e2 : cv = nI c) (ha : a < 6) (hc : c < 6) : Sp d me_U_swapInLine [.ref ad, .int av, .int cv] h none (h.set (ad + 5) (.inl (0, 6, .inl (upd (upd f a (f c)) c (f a))))) := by
  subst e1; subst e2
  have hB := hB0
  have hLn := hL0
  refine Sp.of ok_U_swapInLine trivial rfl ?_
  refine Ev.go 1 rfl ?_
  refine Ev.gf rfl lf_6_18_6 hB rfl ?_
  refine Ev.go 1 rfl ?_
  refine Ev.iln rfl hLn rfl (by omega) (by omega) ?_
  refine Ev.go 2 rfl ?_
  refine Ev.gf rfl lf_6_18_6 hB rfl ?_
  refine Ev.go 2 rfl ?_
  refine Ev.gf rfl lf_6_18_6 hB rfl ?_
  refine Ev.go 1 rfl ?_
  refine Ev.iln rfl hLn rfl (by omega) (by omega) ?_
  refine Ev.isn rfl hLn rfl (by omega) (by omega) ?_
  have hB : (h.set (ad + 5) (.inl (0, 6, .inl (upd f a (f c)))))[ad]? = _ := (List.getElem?_set_ne (by omega)).trans hB0
  have hLn : (h.set (ad + 5) (.inl (0, 6, .inl (upd f a (f c)))))[ad + 5]? = some (.inl (0, 6, .inl (upd f a (f c)))) := List.getElem?_set_self (cell_lt hL0)
  refine Ev.go 1 rfl ?_
  refine Ev.gf rfl lf_6_18_6 hB rfl ?_
  refine Ev.go 2 rfl ?_
  refine Ev.isn rfl hLn rfl (by omega) (by omega) ?_
  rw [List.set_set]
  exact Ev.retv rfl
theorem swp_len (L : List Nat) (a c : Nat) : (swp L a c).length = L.length := by unfold swp; rw [List.length_set, List.length_set]
theorem gD_set {L : List Nat} {a v j : Nat} (ha : a < L.length) : gD (L.set a v) j = if j = a then v else gD L j := by
  unfold gD
  rw [List.getD_eq_getElem?_getD, List.getD_eq_getElem?_getD]
  by_cases e : j = a
  · subst e
    rw [if_pos rfl, List.getElem?_set_self ha]
    rfl
  · rw [if_neg e, List.getElem?_set_ne (fun z => e z.symm)]
theorem row_swp {f : Nat → Int32} {L : List Nat} {K : Nat → Nat} {m a c : Nat} (hl : L.length = m) (hf : ∀ j, j < m → f j = nI (K (gD L j))) (ha : a < m) (hc : c < m) : ∀ j, j < m → upd (upd f a (f c)) c (f a) j = nI (K (gD (swp L a c) j)) := by
  intro j hj
  unfold swp
  rw [gD_set (by rw [List.length_set]; omega), gD_set (by omega)]
  by_cases e : j = c
  · subst e; rw [pk_us, if_pos rfl, hf a ha]
  · rw [pk_un e, if_neg e]
    by_cases e2 : j = a
    · subst e2; rw [pk_us, if_pos rfl, hf c hc]
    · rw [pk_un e2, if_neg e2, hf j hj]
def PNx (h : sn_H) (ad m : Nat) (K : Nat → Nat) (z : Option (List Nat)) (r : Option Value) (h' : sn_H) : Prop := r = some (.int (b2i z.isSome)) ∧ AG h h' (ad + 5) 1 ∧ ∃ f' : Nat → Int32, h'[ad + 5]? = some (.inl (0, 6, .inl f')) ∧ ∀ L', z = some L' → ∀ j, j < m → f' j = nI (K (gD L' j))
theorem PNx.rc {h : sn_H} {ad m : Nat} {K : Nat → Nat} {z : Option (List Nat)} {r : Option Value} {h' : sn_H} (q : PNx h ad m K z r h') : sn_rc (some .boolean) r := by
  obtain ⟨rfl, _⟩ := q; exact b2i_rc _
theorem njF_le (L : List Nat) (i : Nat) : ∀ j, njF L i j ≤ j
  | 0 => Nat.le_refl _
  | j + 1 => by
    have := njF_le L i j
    unfold njF
    split <;> omega
theorem nI_ge1 {m : Nat} (h : m < 2 ^ 31) : (0 : Int32) ≤ nI m := by
  rw [← nI_0]
  exact Int32.not_lt.mp (nI_nlt (Nat.zero_le m) h)
theorem m1_nge : ¬ (0 : Int32) ≤ nI 0 - nI 1 := by decide +kernel
set_option maxHeartbeats 4000000 in
theorem e_U_nextLine (d : Nat) {h : sn_H} {b : sn_Bk} {ad ru : Nat} (hB0 : h[ad]? = some (.inr (6, bfs b ad ru [.ref (ad + 3), .ref (ad + 4), .ref (ad + 5), .ref (ad + 6)]))) {f : Nat → Int32} (hL0 : h[ad + 5]? = some (.inl (0, 6, .inl f))) {L : List Nat} {m s : Nat} {mv : Int32} (e1 : mv = nI m) (hm1 : 1 ≤ m) (hm6 : m ≤ 6) (hs : s < 2 ^ 32) (hms : m ≤ pcnt s) (hl : L.length = m) (hLm : ∀ i, i < m → gD L i < m) (hf : ∀ i, i < m → f i = nI (ky s (gD L i))) : SpP (d + 1) me_U_nextLine [.ref ad, .int mv] h (PNx h ad m (ky s) (nxt L)) := by
  subst e1
  refine SpP.of ok_U_nextLine (fun r h' z => z.rc) rfl ?_
  have L3 : ∀ (v2 v3 : Int32) (fu : Nat) (h1 : sn_H) (f1 : Nat → Int32) (M : List Nat) (a : Nat) (c : Nat) (av : Int32) (cv : Int32), (c ≤ a + fu) → (c < m) → (a ≤ m) → (M.length = m) → (AG h h1 (ad + 5) 1) → (h1[ad + 5]? = some (.inl (0, 6, .inl f1))) → (∀ j, j < m → f1 j = nI (ky s (gD M j))) → (nxt L = some (rvF fu M a c)) → (av = nI a) → (cv = nI c) → EvP o0 (d + 1) me_U_nextLine 83 [.ref ad, .int (nI m), .int v2, .int v3, .int av, .int cv] [] h1 (PNx h ad m (ky s) (nxt L)) := by
    intro v2 v3 fu
    induction fu using Nat.strongRecOn with
    | _ fu ih =>
      intro h1 f1 M a c av cv k1 kc ka hMl hA hLn hf1 hR e3 e4
      subst e3
      subst e4
      have hB : h1[ad]? = _ := (hA.2 ad (by omega)).trans hB0
      refine EvP.s (fun _ _ K => Ev.go 2 rfl K) ?_
      refine EvP.ige rfl rfl rfl (by omega) (by omega) (fun c87 => ?_) (fun c87 => ?_)
      · refine EvP.s (fun _ _ K => Ev.go 1 rfl K) ?_
        refine ⟨_, _, Ev.reti rfl rfl, ?_⟩
        refine ⟨by rw [hR]; rfl, hA, f1, hLn, fun L' e => ?_⟩
        rw [hR] at e
        have e2 : rvF fu M a c = M := by
          cases fu with
          | zero => rfl
          | succ z => exact if_neg (by omega)
        rw [e2] at e
        cases e
        exact hf1
      refine EvP.s (fun _ _ K => Ev.go 3 rfl K) ?_
      refine EvP.s (fun _ _ K => Ev.cv0 (E' := me_U_swapInLine) rfl mk_U_swapInLine lv_6_78_6 rfl hB rfl (e_U_swapInLine d hB hLn rfl rfl (by omega) (by omega)) K) ?_
      refine EvP.s (fun _ _ K => Ev.go 3 rfl K) ?_
      obtain ⟨fu, rfl⟩ : ∃ z, fu = z + 1 := ⟨fu - 1, by omega⟩
      refine ih fu (by omega) _ _ (swp M a c) (a + 1) (c - 1) _ _ (by omega) (by omega) (by omega) (by rw [swp_len]; exact hMl) (hA.trans (AG.set h1 _ (by omega) (by omega))) (List.getElem?_set_self (cell_lt hLn)) (row_swp hMl hf1 (by omega) kc) ?_ (by rw [nI_add]) ?_
      · rw [hR]
        show some (if a < c then _ else _) = _
        rw [if_pos c87]
      · obtain ⟨z, rfl⟩ : ∃ z, c = z + 1 := ⟨c - 1, by omega⟩
        exact dec1
  have L1 : ∀ (p : Nat) (iv : Int32), (p < m) → (pvF L p = pvF L (m - 1)) → (iv = nI p - nI 1) → EvP o0 (d + 1) me_U_nextLine 4 [.ref ad, .int (nI m), .int iv, .retAddr 0, .retAddr 0, .retAddr 0] [] h (PNx h ad m (ky s) (nxt L)) := by
    intro p
    induction p using Nat.strongRecOn with
    | _ p ih =>
      intro iv kp hP e3
      subst e3
      rcases Nat.eq_zero_or_pos p with e | e
      · subst e
        refine EvP.s (fun _ _ K => Ev.go 1 rfl K) ?_
        refine EvP.s (fun _ _ K => Ev.bt rfl rfl m1_lt K) ?_
        refine EvP.s (fun _ _ K => Ev.go 1 rfl K) ?_
        refine EvP.s (fun _ _ K => Ev.bf rfl rfl m1_nge K) ?_
        refine EvP.s (fun _ _ K => Ev.go 1 rfl K) ?_
        refine ⟨_, _, Ev.reti rfl rfl, ?_⟩
        have hnx : nxt L = none := by
          unfold nxt
          rw [hl, ← hP]
          rfl
        refine ⟨by rw [hnx]; rfl, AG.refl _ _ _, f, hL0, fun L' e => ?_⟩
        rw [hnx] at e
        cases e
      · obtain ⟨i, rfl⟩ : ∃ i, p = i + 1 := ⟨p - 1, by omega⟩
        rw [dec1]
        have hB := hB0
        have hLn := hL0
        have hgi := hLm i (by omega)
        have hgj := hLm (i + 1) kp
        have hki := (ky_ok hs (show gD L i < pcnt s by omega)).1
        have hkj := (ky_ok hs (show gD L (i + 1) < pcnt s by omega)).1
        refine EvP.s (fun _ _ K => Ev.go 1 rfl K) ?_
        refine EvP.s (fun _ _ K => Ev.bf rfl rfl (nI_nl0 (by omega)) K) ?_
        refine EvP.s (fun _ _ K => Ev.go 1 rfl K) ?_
        refine EvP.s (fun _ _ K => Ev.gf rfl lf_6_18_6 hB rfl K) ?_
        refine EvP.s (fun _ _ K => Ev.go 1 rfl K) ?_
        refine EvP.s (fun _ _ K => Ev.iln rfl hLn rfl (by omega) (by omega) K) ?_
        rw [hf i (by omega)]
        refine EvP.s (fun _ _ K => Ev.go 1 rfl K) ?_
        refine EvP.s (fun _ _ K => Ev.gf rfl lf_6_18_6 hB rfl K) ?_
        refine EvP.s (fun _ _ K => Ev.go 3 rfl K) ?_
        refine EvP.s (fun _ _ K => Ev.iln rfl hLn (by rw [nI_add]) (by omega) (by omega) K) ?_
        rw [hf (i + 1) kp]
        refine EvP.ile rfl rfl rfl (by omega) (by omega) (fun c22 => ?_) (fun c22 => ?_)
        · refine EvP.s (fun _ _ K => Ev.go 1 rfl K) ?_
          refine EvP.s (fun _ _ K => Ev.bt rfl rfl (nI_ge1 (by omega)) K) ?_
          refine EvP.s (fun _ _ K => Ev.go 4 rfl K) ?_
          have hP : pvF L (m - 1) = some i := by
            rw [← hP]
            exact if_pos ((ky_le hs (by omega) (by omega)).mp c22)
          have L2 : ∀ (j : Nat) (jv : Int32), (j < m) → (njF L i j = njF L i (m - 1)) → (jv = nI j) → EvP o0 (d + 1) me_U_nextLine 41 [.ref ad, .int (nI m), .int (nI i), .int jv, .retAddr 0, .retAddr 0] [] h (PNx h ad m (ky s) (nxt L)) := by
            intro j
            induction j using Nat.strongRecOn with
            | _ j ih =>
              intro jv kj hJ e3
              subst e3
              have hB := hB0
              have hLn := hL0
              have hgi := hLm i (by omega)
              have hgj := hLm j kj
              have hki := (ky_ok hs (show gD L i < pcnt s by omega)).1
              have hkj := (ky_ok hs (show gD L j < pcnt s by omega)).1
              refine EvP.s (fun _ _ K => Ev.go 2 rfl K) ?_
              refine EvP.ile rfl rfl rfl (by omega) (by omega) (fun c43 => ?_) (fun c43 => ?_)
              · have hJ2 : njF L i j = j := by
                  cases j with
                  | zero => rfl
                  | succ z => exact if_neg (fun w => by omega)
                refine EvP.s (fun _ _ K => Ev.go 3 rfl K) ?_
                refine EvP.s (fun _ _ K => Ev.cv0 (E' := me_U_swapInLine) rfl mk_U_swapInLine lv_6_78_6 rfl hB rfl (e_U_swapInLine d hB hLn rfl rfl (by omega) (by omega)) K) ?_
                refine EvP.s (fun _ _ K => Ev.go 8 rfl K) ?_
                refine L3 _ _ 6 _ _ (swp L i j) (i + 1) (m - 1) _ _ (by omega) (by omega) (by omega) (by rw [swp_len]; exact hl) (AG.set h _ (by omega) (by omega)) (List.getElem?_set_self (cell_lt hL0)) (row_swp hl hf (by omega) kj) ?_ (by rw [nI_add]) (pk_sub1 (by omega))
                unfold nxt
                rw [hl, hP]
                show some _ = some _
                rw [← hJ, hJ2]
              refine EvP.s (fun _ _ K => Ev.go 1 rfl K) ?_
              refine EvP.s (fun _ _ K => Ev.gf rfl lf_6_18_6 hB rfl K) ?_
              refine EvP.s (fun _ _ K => Ev.go 1 rfl K) ?_
              refine EvP.s (fun _ _ K => Ev.iln rfl hLn rfl (by omega) (by omega) K) ?_
              rw [hf j kj]
              refine EvP.s (fun _ _ K => Ev.go 1 rfl K) ?_
              refine EvP.s (fun _ _ K => Ev.gf rfl lf_6_18_6 hB rfl K) ?_
              refine EvP.s (fun _ _ K => Ev.go 1 rfl K) ?_
              refine EvP.s (fun _ _ K => Ev.iln rfl hLn rfl (by omega) (by omega) K) ?_
              rw [hf i (by omega)]
              refine EvP.ige rfl rfl rfl (by omega) (by omega) (fun c58 => ?_) (fun c58 => ?_)
              · have hJ2 : njF L i j = j := by
                  cases j with
                  | zero => rfl
                  | succ z => exact if_neg (fun w => absurd ((ky_lt hs (by omega) (by omega)).mpr w.2) (by omega))
                refine EvP.s (fun _ _ K => Ev.go 3 rfl K) ?_
                refine EvP.s (fun _ _ K => Ev.cv0 (E' := me_U_swapInLine) rfl mk_U_swapInLine lv_6_78_6 rfl hB rfl (e_U_swapInLine d hB hLn rfl rfl (by omega) (by omega)) K) ?_
                refine EvP.s (fun _ _ K => Ev.go 8 rfl K) ?_
                refine L3 _ _ 6 _ _ (swp L i j) (i + 1) (m - 1) _ _ (by omega) (by omega) (by omega) (by rw [swp_len]; exact hl) (AG.set h _ (by omega) (by omega)) (List.getElem?_set_self (cell_lt hL0)) (row_swp hl hf (by omega) kj) ?_ (by rw [nI_add]) (pk_sub1 (by omega))
                unfold nxt
                rw [hl, hP]
                show some _ = some _
                rw [← hJ, hJ2]
              refine EvP.s (fun _ _ K => Ev.go 2 rfl K) ?_
              obtain ⟨z, rfl⟩ : ∃ z, j = z + 1 := ⟨j - 1, by omega⟩
              refine ih z (by omega) _ (by omega) ?_ dec1
              rw [← hJ]
              show _ = (if i < z + 1 ∧ gD L (z + 1) < gD L i then _ else _)
              rw [if_pos ⟨c43, (ky_lt hs (by omega) (by omega)).mp c58⟩]
          exact L2 (m - 1) _ (by omega) rfl (pk_sub1 (by omega))
        refine EvP.s (fun _ _ K => Ev.go 2 rfl K) ?_
        refine ih i (by omega) _ (by omega) ?_ rfl
        rw [← hP]
        show _ = (if gD L i ≤ gD L (i + 1) then _ else _)
        rw [if_neg (fun w => absurd ((ky_le hs (by omega) (by omega)).mpr w) (by omega))]
  refine EvP.s (fun _ _ K => Ev.go 4 rfl K) ?_
  refine L1 (m - 1) _ (by omega) rfl ?_
  by_cases e : m = 1
  · subst e; decide +kernel
  · rw [nI_sub (by omega), nI_sub (by omega)]
    rfl
def POk (h : sn_H) (ad : Nat) (v : Int32) (r : Option Value) (h' : sn_H) : Prop := r = some (.int v) ∧ AG h h' (ad + 4) 2 ∧ IR h' (ad + 4) 32 ∧ IR h' (ad + 5) 6
theorem POk.rc {h : sn_H} {ad : Nat} {v : Int32} {r : Option Value} {h' : sn_H} (q : POk h ad v r h') : sn_rc (some .int) r := by
  obtain ⟨rfl, _⟩ := q; trivial
theorem orv_no {w : sn_Lw} {b : sn_Bk} {s i : Nat} (h : pcnt s ≤ i) : orv w b s i = - nI 1 := by
  unfold orv
  cases fso w b s (fct (pcnt s)) 0 with
  | none => rfl
  | some n => exact if_neg (by omega)
theorem AG.wide4 {h h1 h2 : sn_H} {ad : Nat} (p : AG h h1 (ad + 4) 2) (q : AG h1 h2 (ad + 4) 1) : AG h h2 (ad + 4) 2 := ⟨q.1.trans p.1, fun i hi => (q.2 i (by omega)).trans (p.2 i hi)⟩
theorem AG.wide5 {h h1 h2 : sn_H} {ad : Nat} (p : AG h h1 (ad + 4) 2) (q : AG h1 h2 (ad + 5) 1) : AG h h2 (ad + 4) 2 := ⟨q.1.trans p.1, fun i hi => (q.2 i (by omega)).trans (p.2 i hi)⟩
theorem gD_map {L : List Nat} {K : Nat → Nat} {i : Nat} (h : i < L.length) : gD (L.map K) i = K (gD L i) := by
  unfold gD
  rw [List.getD_eq_getElem?_getD, List.getD_eq_getElem?_getD, List.getElem?_map, List.getElem?_eq_getElem h]
  rfl
set_option maxHeartbeats 4000000 in
theorem e_U_orderedKey (d : Nat) {h : sn_H} {w : sn_Lw} {b : sn_Bk} {ad ru : Nat} (hw : WL w) (hb : WB w.1 b) (h3 : bk b = 3) (hO : BO h w b ad ru (bex b ad)) {f0 : Nat → Int32} (hT0 : h[ad + 4]? = some (.inl (0, 32, .inl f0))) {fl : Nat → Int32} (hL0 : h[ad + 5]? = some (.inl (0, 6, .inl fl))) {s i0 : Nat} {sv : Int64} {iv : Int32} (e1 : sv = lN s) (e2 : iv = nI i0) (hs : s < 2 ^ 32) (h6 : pcnt s ≤ 6) (hi6 : i0 < 6) : SpP (d + 4) me_U_orderedKey [.ref ad, .long sv, .int iv] h (POk h ad (orv w b s i0)) := by
  subst e1; subst e2
  have hbx : bex b ad = [.ref (ad + 3), .ref (ad + 4), .ref (ad + 5), .ref (ad + 6)] := if_pos h3
  have hm := hb.2.1
  refine SpP.of ok_U_orderedKey (fun r h' z => z.rc) rfl ?_
  have J50 : ∀ (h1 : sn_H) (g : Nat → Int32) (v5 : Int32), AG h h1 (ad + 5) 1 → h1[ad + 5]? = some (.inl (0, 6, .inl g)) → (∀ j, j < pcnt s → g j = nI (ky s j)) → EvP o0 (d + 4) me_U_orderedKey 50 [.ref ad, .long (lN s), .retAddr 0, .int (nI i0), .int (nI (pcnt s)), .int v5] [] h1 (POk h ad (orv w b s i0)) := by
    intro h1 g v5 hA hLn hg
    have hT1 : h1[ad + 4]? = _ := (hA.2 (ad + 4) (by omega)).trans hT0
    have hA0 : AG h h1 (ad + 4) 2 := (AG.refl _ _ _).wide5 hA
    refine EvP.s (fun _ _ K => Ev.go 1 rfl K) ?_
    refine EvP.s (fun _ _ K => Ev.bf rfl rfl (nI_nl0 (by omega)) K) ?_
    refine EvP.s (fun _ _ K => Ev.go 2 rfl K) ?_
    refine EvP.ilt rfl rfl rfl (by omega) (by omega) (fun c57 => ?_) (fun c57 => ?_)
    · have hi0 : i0 < pcnt s := c57
      have hf720 := fct_le (pcnt s) (by omega)
      have L2 : ∀ (n : Nat) (h1 : sn_H) (f : Nat → Int32) (g : Nat → Int32) (nn : Nat) (nv : Int32), (nn + n = fct (pcnt s)) → (0 < n) → (BO h1 w b ad ru (bex b ad)) → (AG h h1 (ad + 4) 2) → (h1[ad + 4]? = some (.inl (0, 32, .inl f))) → (h1[ad + 5]? = some (.inl (0, 6, .inl g))) → (∀ j, j < pcnt s → g j = nI (ky s (gD (pof (pcnt s) nn) j))) → (fso w b s n nn = fso w b s (fct (pcnt s)) 0) → (nv = nI nn) → EvP o0 (d + 4) me_U_orderedKey 65 [.ref ad, .long (lN s), .retAddr 0, .int (nI i0), .int (nI (pcnt s)), .int nv] [] h1 (POk h ad (orv w b s i0)) := by
        intro n
        induction n using Nat.strongRecOn with
        | _ n ih =>
          intro h1 f g nn nv k1 k0 hO1 hA hT hLn hg hf e3
          subst e3
          obtain ⟨n, rfl⟩ : ∃ z, n = z + 1 := ⟨n - 1, by omega⟩
          have hpl := pof_len (m := pcnt s) (n := nn) (by omega) (by omega)
          obtain ⟨r2, h2, sp2, er, hA2, hI2⟩ := e_U_allFindPlaces d hw hb h3 hO1 hT hLn (ks := (pof (pcnt s) nn).map (ky s)) (rfl : nI (pcnt s) = _) h6 (by rw [List.length_map]; exact hpl) (fun i hi => by rw [gD_map (by omega)]; exact hg i hi) (fun i hi => by rw [gD_map (by omega)]; exact (ky_ok hs (pof_lt (by omega) (by omega) hi)).1)
          subst er
          have hB := hO1.1
          rw [h3, hbx] at hB
          refine EvP.s (fun _ _ K => Ev.go 2 rfl K) ?_
          refine EvP.ige rfl rfl rfl (by omega) (by omega) (fun c70 => ?_) (fun c70 => ?_)
          · exact absurd c70 (by omega)
          refine EvP.s (fun _ _ K => Ev.go 2 rfl K) ?_
          refine EvP.s (fun _ _ K => Ev.cv (E' := me_U_allFindPlaces) rfl mk_U_allFindPlaces lv_6_71_6 rfl hB rfl (sp2) K) ?_
          have hO2 := hO1.agI hT hA2
          have hLn2 : h2[ad + 5]? = _ := (hA2.2 (ad + 5) (by omega)).trans hLn
          have hB := hO2.1
          rw [h3, hbx] at hB
          refine EvP.zb rfl rfl (fun c79 => ?_) (fun c79 => ?_)
          · obtain ⟨r4, h4, sp4, er4, hA4, f4, hL4, hf4⟩ := e_U_nextLine (d + 2) (L := pof (pcnt s) nn) hB hLn2 (rfl : nI (pcnt s) = _) (by omega) h6 hs (Nat.le_refl _) hpl (fun i hi => pof_lt (by omega) (by omega) hi) hg
            subst er4
            have hgo : goO w b s nn = false := c79
            have hf : fso w b s n (nn + 1) = fso w b s (fct (pcnt s)) 0 := by
              rw [← hf]
              show _ = (if goO w b s nn then _ else _)
              rw [hgo, if_neg (by decide)]
            refine EvP.s (fun _ _ K => Ev.go 2 rfl K) ?_
            refine EvP.s (fun _ _ K => Ev.cv (E' := me_U_nextLine) rfl mk_U_nextLine lv_6_75_6 rfl hB rfl (sp4) K) ?_
            refine EvP.zn rfl rfl (fun c95 => ?_) (fun c95 => ?_)
            · refine EvP.s (fun _ _ K => Ev.go 2 rfl K) ?_
              have hn0 : 0 < n := by
                apply Classical.byContradiction
                intro hz
                rw [pof_last (by omega) (by omega)] at c95
                cases c95
              obtain ⟨f2, hT2⟩ := id hI2
              refine ih n (by omega) h4 f2 f4 (nn + 1) _ (by omega) hn0 (hO2.agI hLn2 hA4) ((hA.wide4 hA2).wide5 hA4) ((hA4.2 (ad + 4) (by omega)).trans hT2) hL4 (hf4 _ (pof_nxt (by omega) (by omega))) hf (by rw [nI_add])
            refine EvP.s (fun _ _ K => Ev.go 1 rfl K) ?_
            refine ⟨_, _, Ev.reti rfl rfl, ?_⟩
            have hn0 : n = 0 := by
              apply Classical.byContradiction
              intro hz
              rw [pof_nxt (by omega) (by omega)] at c95
              cases c95
            refine ⟨?_, (hA.wide4 hA2).wide5 hA4, ?_, ⟨_, hL4⟩⟩
            · unfold orv
              rw [← hf, hn0]
              rfl
            · obtain ⟨f2, hT2⟩ := id hI2
              exact ⟨f2, (hA4.2 (ad + 4) (by omega)).trans hT2⟩
          refine EvP.s (fun _ _ K => Ev.go 1 rfl K) ?_
          refine EvP.s (fun _ _ K => Ev.gf rfl lf_6_18_6 hB rfl K) ?_
          refine EvP.s (fun _ _ K => Ev.go 1 rfl K) ?_
          refine EvP.s (fun _ _ K => Ev.iln rfl hLn2 rfl (by omega) (by omega) K) ?_
          rw [hg i0 hi0]
          refine ⟨_, _, Ev.reti rfl rfl, ?_⟩
          refine ⟨?_, hA.wide4 hA2, hI2, ⟨_, hLn2⟩⟩
          have hfs : fso w b s (fct (pcnt s)) 0 = some nn := by
            rw [← hf]
            show (if goO w b s nn then _ else _) = _
            rw [show goO w b s nn = true from c79, if_pos rfl]
          unfold orv
          rw [hfs]
          show _ = some (Value.int (if i0 < pcnt s then _ else _))
          rw [if_pos hi0]
      refine EvP.s (fun _ _ K => Ev.go 2 rfl K) ?_
      refine L2 (fct (pcnt s)) h1 f0 g 0 _ (by omega) (fct_pos _) (hO.agI hL0 hA) hA0 hT1 hLn (fun j hj => ?_) rfl rfl
      rw [pof_0 (pcnt s) (by omega) j hj]
      exact hg j hj
    refine EvP.s (fun _ _ K => Ev.go 1 rfl K) ?_
    refine ⟨_, _, Ev.reti rfl rfl, ?_⟩
    refine ⟨?_, hA0, ⟨_, hT1⟩, ⟨_, hLn⟩⟩
    rw [orv_no (by omega)]
  have L1 : ∀ (n : Nat) (h1 : sn_H) (g : Nat → Int32) (i : Nat) (cv : Int32) (iv : Int32), (i + n = 32) → (AG h h1 (ad + 5) 1) → (h1[ad + 5]? = some (.inl (0, 6, .inl g))) → (∀ j, j < ctf (fun z => s.testBit z) i → g j = nI (ky s j)) → (cv = nI (ctf (fun z => s.testBit z) i)) → (iv = nI i) → EvP o0 (d + 4) me_U_orderedKey 6 [.ref ad, .long (lN s), .retAddr 0, .int (nI i0), .int cv, .int iv] [] h1 (POk h ad (orv w b s i0)) := by
    intro n
    induction n using Nat.strongRecOn with
    | _ n ih =>
      intro h1 g i cv iv k1 hA hLn hg e1 e3
      subst e1
      subst e3
      have hO1 := hO.agI hL0 hA
      have hB := hO1.1
      rw [h3, hbx] at hB
      have hcl : ctf (fun z => s.testBit z) i ≤ pcnt s := by rw [pcnt_ct hs]; exact ctf_mn _ (by omega)
      refine EvP.s (fun _ _ K => Ev.go 2 rfl K) ?_
      refine EvP.ige rfl rfl rfl (by omega) (by omega) (fun c10 => ?_) (fun c10 => ?_)
      · have hc : ctf (fun z => s.testBit z) i = pcnt s := by
          rw [pcnt_ct hs, show i = 32 by omega]
        rw [hc] at hg ⊢
        exact J50 h1 g _ hA hLn hg
      refine EvP.s (fun _ _ K => Ev.go 2 rfl K) ?_
      refine EvP.s (fun _ _ K => Ev.gf rfl lf_6_18_6 hB rfl K) ?_
      refine EvP.s (fun _ _ K => Ev.ln rfl hLn rfl K) ?_
      refine EvP.ige rfl rfl rfl (by omega) (by omega) (fun c20 => ?_) (fun c20 => ?_)
      · have hc : ctf (fun z => s.testBit z) i = pcnt s := by
          omega
        rw [hc] at hg ⊢
        exact J50 h1 g _ hA hLn hg
      refine EvP.s (fun _ _ K => Ev.go 2 rfl K) ?_
      refine EvP.s (fun _ _ K => Ev.cs (E' := me_X_has) rfl mk_X_has ls_6_67 rfl rfl (e_X_has (d + 3) _ rfl rfl (by omega) (by omega)) K) ?_
      refine EvP.zb rfl rfl (fun c29 => ?_) (fun c29 => ?_)
      · refine EvP.s (fun _ _ K => Ev.go 2 rfl K) ?_
        have hcn : ctf (fun z => s.testBit z) (i + 1) = ctf (fun z => s.testBit z) i := by
          show ctf (fun z => s.testBit z) i + (if s.testBit i = true then 1 else 0) = _
          rw [c29]; rfl
        exact ih (n - 1) (by omega) h1 g (i + 1) _ _ (by omega) hA hLn (fun j hj => hg j (by omega)) (by rw [hcn]) (by rw [nI_add])
      have hcs := ctf_s (f := fun z => s.testBit z) c29
      refine EvP.s (fun _ _ K => Ev.go 1 rfl K) ?_
      refine EvP.s (fun _ _ K => Ev.gf rfl lf_6_18_6 hB rfl K) ?_
      refine EvP.s (fun _ _ K => Ev.go 2 rfl K) ?_
      refine EvP.s (fun _ _ K => Ev.isn rfl hLn rfl (by omega) (by omega) K) ?_
      refine EvP.s (fun _ _ K => Ev.go 3 rfl K) ?_
      refine ih (n - 1) (by omega) _ _ (i + 1) _ _ (by omega) (hA.trans (AG.set h1 _ (by omega) (by omega))) (List.getElem?_set_self (cell_lt hLn)) (fun j hj => ?_) (by rw [hcs, nI_add]) (by rw [nI_add])
      by_cases e : j = ctf (fun z => s.testBit z) i
      · subst e; rw [pk_us, ky_eq c29 (by omega)]
      · rw [pk_un e]; exact hg j (by omega)
  refine EvP.s (fun _ _ K => Ev.go 4 rfl K) ?_
  exact L1 32 h fl 0 _ _ (by omega) (AG.refl _ _ _) hL0 (fun j hj => absurd hj (Nat.not_lt_zero j)) rfl rfl
set_option maxHeartbeats 4000000 in
theorem p_X_order (d : Nat) {h : sn_H} {μ : sn_S} (q : XR h μ) (kv : Int32) (sv : Int64) (wv : Int32) : SpP (d + 5) me_X_order [.ref 1, .int kv, .long sv, .int wv] h (PXi h (an_order μ kv sv wv, μ)) := by
  have q0 := q
  obtain ⟨ws, fl, fb, ad, ru, cw, o⟩ := q
  have hX := o.1
  have h6t : (nI 6).toInt = 6 := by decide +kernel
  refine SpP.of ok_X_order (fun r h' z => z.rc) rfl ?_
  by_cases hk : rg kv (snb μ)
  · obtain ⟨k, hk1, hk2, rfl⟩ := rg_ex hk
    obtain ⟨_, h27, hR⟩ := o.2.2.2.2.2.2.1 k hk1
    have hb := ws.2.2 k hk1
    have hB := hR.1.1
    have hci : sn_bk (bk (sbk μ k) + 3) := sn_bk_of hb.1
    by_cases e3 : bk (sbk μ k) = 3
    · have hU := hR.2.2.2.1 e3
      obtain ⟨f0, hT0⟩ := id hU.2.1
      obtain ⟨f1, hL0⟩ := id hU.2.2.1
      have e7 : bln (sbk μ k) = 7 := if_pos e3
      rw [e3] at hB
      refine EvP.s (fun _ _ K => Ev.go 2 rfl K) ?_
      refine EvP.s (fun _ _ K => Ev.cv (E' := me_X_find) rfl mk_X_find lv_0_102_0 rfl hX rfl (e_X_find_y (d + 4) ws o rfl hk1) K) ?_
      refine EvP.s (fun _ _ K => Ev.go 2 rfl K) ?_
      refine EvP.s (fun _ _ K => Ev.p rfl rfl trivial K) ?_
      refine EvP.s (fun _ _ K => Ev.go 1 rfl K) ?_
      refine EvP.s (fun _ _ K => Ev.cs (E' := me_X_isSet) rfl mk_X_isSet ls_0_50 rfl rfl (e_X_isSet (d + 4) _ _) K) ?_
      refine EvP.zb rfl rfl (fun c19 => ?_) (fun c19 => ?_)
      · refine EvP.s (fun _ _ K => Ev.go 1 rfl K) ?_
        refine ⟨_, _, Ev.reti rfl rfl, ?_⟩
        refine PXi.mk q0 (LW.refl _) (GB.refl _) ?_
        unfold an_order; rw [if_neg (fun z => z hk), if_pos (fun z => by exact ofn c19 z.1)]
      obtain ⟨s, hs, rfl⟩ := sg_ex (ofd c19)
      have hp32 := pcnt_le hs
      refine EvP.s (fun _ _ K => Ev.go 1 rfl K) ?_
      refine EvP.s (fun _ _ K => Ev.cs (E' := me_JL_bitCount) rfl mk_JL_bitCount ls_0_123 rfl rfl (e_JL_bitCount (d + 4) _ rfl hs) K) ?_
      refine EvP.s (fun _ _ K => Ev.go 1 rfl K) ?_
      refine EvP.igt rfl rfl rfl (by omega) (by omega) (fun c28 => ?_) (fun c28 => ?_)
      · refine EvP.s (fun _ _ K => Ev.go 1 rfl K) ?_
        refine ⟨_, _, Ev.reti rfl rfl, ?_⟩
        refine PXi.mk q0 (LW.refl _) (GB.refl _) ?_
        unfold an_order; rw [if_neg (fun z => z hk), if_pos (fun z => by have := z.2.1; rw [ts_lN hs] at this; omega)]
      refine EvP.s (fun _ _ K => Ev.go 1 rfl K) ?_
      refine EvP.br rfl rfl (fun c33 => ?_) (fun c33 => ?_)
      · refine EvP.s (fun _ _ K => Ev.go 1 rfl K) ?_
        refine ⟨_, _, Ev.reti rfl rfl, ?_⟩
        refine PXi.mk q0 (LW.refl _) (GB.refl _) ?_
        unfold an_order; rw [if_neg (fun z => z hk), if_pos (fun z => by rw [lt0] at c33; have := z.2.2.1; omega)]
      refine EvP.s (fun _ _ K => Ev.go 2 rfl K) ?_
      refine EvP.br rfl rfl (fun c40 => ?_) (fun c40 => ?_)
      · rw [lt0] at c33
        rw [fa_lt] at c40
        have hrg : rg wv 6 := ⟨by omega, by omega⟩
        have hok : sg (lN s) ∧ pcnt (ts (lN s)) ≤ 6 ∧ rg wv 6 := ⟨ofd c19, by rw [ts_lN hs]; omega, hrg⟩
        obtain ⟨w, hw, hw2, rfl⟩ := rg_ex hrg
        refine EvP.s (fun _ _ K => Ev.go 1 rfl K) ?_
        refine EvP.s (fun _ _ K => Ev.iy rfl ly_0_234_6 hB K) ?_
        refine EvP.s (fun _ _ K => Ev.bf rfl rfl (by decide) K) ?_
        refine EvP.s (fun _ _ K => Ev.go 1 rfl K) ?_
        refine EvP.s (fun _ _ K => Ev.cc rfl ly_0_234_6 hB K) ?_
        refine EvP.s (fun _ _ K => Ev.go 1 rfl K) ?_
        obtain ⟨r2, h2, sp2, er, hA2, hI4, hI5⟩ := e_U_orderedKey d ws.1 hb e3 hR.1 hT0 hL0 (rfl : lN s = lN s) (rfl : nI w = nI w) hs (by omega) hw
        subst er
        refine EvP.s (fun _ _ K => Ev.go 3 rfl K) ?_
        refine EvP.s (fun _ _ K => Ev.cv (E' := me_U_orderedKey) rfl mk_U_orderedKey lv_0_236_6 rfl hB rfl (sp2) K) ?_
        refine EvP.s (fun _ _ K => Ev.go 1 rfl K) ?_
        refine ⟨_, _, Ev.reti rfl rfl, ?_⟩
        have hR2 : BR h2 (sw μ) (sbk μ k) (ad k) (ru k) := hR.rowU e3 (hA2.mono (by omega) (by omega)) (hU.1.ne (hA2.2 _ (by omega))) hI4 hI5 (hU.2.2.2.ne (hA2.2 _ (by omega)))
        have hA3 : AG h h2 (ad k) (bln (sbk μ k)) := hA2.mono (by omega) (by omega)
        have o2 := o.chg ws hk1 (b' := sbk μ k) rfl hA3 hR2
        rw [setB_id] at o2
        refine PXi.mk ⟨ws, _, _, _, _, _, o2⟩ (hA3.lw h27) (GB.ag hR hR2 rfl hA3) ?_
        unfold an_order; rw [if_neg (fun z => z hk), if_neg (fun z => z hok), tn_nI hk2, ts_lN hs, tn_nI hw2, if_neg (fun z => z e3)]
      refine EvP.s (fun _ _ K => Ev.go 1 rfl K) ?_
      refine ⟨_, _, Ev.reti rfl rfl, ?_⟩
      refine PXi.mk q0 (LW.refl _) (GB.refl _) ?_
      unfold an_order; rw [if_neg (fun z => z hk), if_pos (fun z => by rw [fa_lt] at c40; have := z.2.2.2; omega)]
    · refine EvP.s (fun _ _ K => Ev.go 2 rfl K) ?_
      refine EvP.s (fun _ _ K => Ev.cv (E' := me_X_find) rfl mk_X_find lv_0_102_0 rfl hX rfl (e_X_find_y (d + 4) ws o rfl hk1) K) ?_
      refine EvP.s (fun _ _ K => Ev.go 2 rfl K) ?_
      refine EvP.s (fun _ _ K => Ev.p rfl rfl trivial K) ?_
      refine EvP.s (fun _ _ K => Ev.go 1 rfl K) ?_
      refine EvP.s (fun _ _ K => Ev.cs (E' := me_X_isSet) rfl mk_X_isSet ls_0_50 rfl rfl (e_X_isSet (d + 4) _ _) K) ?_
      refine EvP.zb rfl rfl (fun c19 => ?_) (fun c19 => ?_)
      · refine EvP.s (fun _ _ K => Ev.go 1 rfl K) ?_
        refine ⟨_, _, Ev.reti rfl rfl, ?_⟩
        refine PXi.mk q0 (LW.refl _) (GB.refl _) ?_
        unfold an_order; rw [if_neg (fun z => z hk), if_pos (fun z => by exact ofn c19 z.1)]
      obtain ⟨s, hs, rfl⟩ := sg_ex (ofd c19)
      have hp32 := pcnt_le hs
      refine EvP.s (fun _ _ K => Ev.go 1 rfl K) ?_
      refine EvP.s (fun _ _ K => Ev.cs (E' := me_JL_bitCount) rfl mk_JL_bitCount ls_0_123 rfl rfl (e_JL_bitCount (d + 4) _ rfl hs) K) ?_
      refine EvP.s (fun _ _ K => Ev.go 1 rfl K) ?_
      refine EvP.igt rfl rfl rfl (by omega) (by omega) (fun c28 => ?_) (fun c28 => ?_)
      · refine EvP.s (fun _ _ K => Ev.go 1 rfl K) ?_
        refine ⟨_, _, Ev.reti rfl rfl, ?_⟩
        refine PXi.mk q0 (LW.refl _) (GB.refl _) ?_
        unfold an_order; rw [if_neg (fun z => z hk), if_pos (fun z => by have := z.2.1; rw [ts_lN hs] at this; omega)]
      refine EvP.s (fun _ _ K => Ev.go 1 rfl K) ?_
      refine EvP.br rfl rfl (fun c33 => ?_) (fun c33 => ?_)
      · refine EvP.s (fun _ _ K => Ev.go 1 rfl K) ?_
        refine ⟨_, _, Ev.reti rfl rfl, ?_⟩
        refine PXi.mk q0 (LW.refl _) (GB.refl _) ?_
        unfold an_order; rw [if_neg (fun z => z hk), if_pos (fun z => by rw [lt0] at c33; have := z.2.2.1; omega)]
      refine EvP.s (fun _ _ K => Ev.go 2 rfl K) ?_
      refine EvP.br rfl rfl (fun c40 => ?_) (fun c40 => ?_)
      · rw [lt0] at c33
        rw [fa_lt] at c40
        have hrg : rg wv 6 := ⟨by omega, by omega⟩
        have hok : sg (lN s) ∧ pcnt (ts (lN s)) ≤ 6 ∧ rg wv 6 := ⟨ofd c19, by rw [ts_lN hs]; omega, hrg⟩
        obtain ⟨w, hw, hw2, rfl⟩ := rg_ex hrg
        refine EvP.s (fun _ _ K => Ev.go 1 rfl K) ?_
        refine EvP.s (fun _ _ K => Ev.in rfl (lnb_234 hci (by omega)) hB K) ?_
        refine EvP.s (fun _ _ K => Ev.bt rfl rfl rfl K) ?_
        refine EvP.s (fun _ _ K => Ev.go 1 rfl K) ?_
        refine ⟨_, _, Ev.reti rfl rfl, ?_⟩
        refine PXi.mk q0 (LW.refl _) (GB.refl _) ?_
        unfold an_order; rw [if_neg (fun z => z hk), if_neg (fun z => z hok), tn_nI hk2, ts_lN hs, tn_nI hw2, if_pos e3]
      refine EvP.s (fun _ _ K => Ev.go 1 rfl K) ?_
      refine ⟨_, _, Ev.reti rfl rfl, ?_⟩
      refine PXi.mk q0 (LW.refl _) (GB.refl _) ?_
      unfold an_order; rw [if_neg (fun z => z hk), if_pos (fun z => by rw [fa_lt] at c40; have := z.2.2.2; omega)]
  · refine EvP.s (fun _ _ K => Ev.go 2 rfl K) ?_
    refine EvP.s (fun _ _ K => Ev.cv (E' := me_X_find) rfl mk_X_find lv_0_102_0 rfl hX rfl (e_X_find_n (d + 4) q0 hk) K) ?_
    refine EvP.s (fun _ _ K => Ev.go 2 rfl K) ?_
    refine EvP.s (fun _ _ K => Ev.p rfl rfl trivial K) ?_
    refine EvP.s (fun _ _ K => Ev.go 1 rfl K) ?_
    refine ⟨_, _, Ev.reti rfl rfl, ?_⟩
    refine PXi.mk q0 (LW.refl _) (GB.refl _) ?_
    unfold an_order; rw [if_pos hk]
