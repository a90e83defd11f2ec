/-! THE CLASS: layers -/
theorem e_L_placesInRow (d : Nat) {h : sn_H} {w : sn_Lw} {b : sn_Bk} {ad ru : Nat} {ex : List Value} (hw : WL w) (hb : WB w.1 b) (hO : BO h w b ad ru ex) (h5 : bk b = 5) {r s : Nat} {rv : Int32} {sv : Int64} (e1 : rv = nI r) (e2 : sv = lN s) (hr : r < 2 ^ 31) (hs : s < 2 ^ 32) : Sp (d + 2) me_L_placesInRow [.ref ad, .int rv, .long sv] h (some (.long (lN (prow w b r s)))) h := by
  subst e1; subst e2
  have hm := hb.2.1
  have hB := hO.1
  rw [h5] at hB
  refine Sp.of ok_L_placesInRow trivial rfl ?_
  have L : ∀ (n : Nat) (i : Nat) (av : Int64) (iv : Int32), (i + n = 32) → (av = lN (orf (fun x => if s.testBit x then 2 ^ lpl w b r x else 0) i)) → (iv = nI i) → Ev o0 (d + 2) me_L_placesInRow 6 [.ref ad, .int (nI r), .long (lN s), .retAddr 0, .long av, .retAddr 0, .int iv] [] h (some (.long (lN (prow w b r s)))) h := by
    intro n
    induction n using Nat.strongRecOn with
    | _ n ih =>
      intro i av iv k1 k2 e3
      subst k2
      subst e3
      refine Ev.go 2 rfl ?_
      refine Ev.ige rfl rfl rfl (by omega) (by omega) (fun c10 => ?_) (fun c10 => ?_)
      · refine Ev.go 1 rfl ?_
        exact Ev.retl rfl (by rw [show i = 32 by omega]; rfl)
      refine Ev.go 2 rfl ?_
      refine Ev.cs (E' := me_X_has) rfl mk_X_has ls_8_41 rfl rfl (e_X_has (d + 1) _ rfl rfl (by omega) (by omega)) ?_
      refine Ev.zb rfl rfl (fun c19 => ?_) (fun c19 => ?_)
      · refine Ev.go 2 rfl ?_
        exact ih (n - 1) (by omega) (i + 1) _ _ (by omega) (by simp [orf, c19]) (by rw [nI_add])
      refine Ev.go 5 rfl ?_
      refine Ev.cv (E' := me_L_placeInRow) rfl mk_L_placeInRow lv_8_38_8 rfl hB rfl (e_L_placeInRow d hw hb hO h5 rfl rfl hr (by omega)) ?_
      refine Ev.go 5 rfl ?_
      exact ih (n - 1) (by omega) (i + 1) _ _ (by omega) (by rw [sh1 (by have := lpl_lt (w := w) hb r i; omega)]; exact or_step (by simp [c19])) (by rw [nI_add])
  refine Ev.go 4 rfl ?_
  exact L 32 0 _ _ (by omega) rfl rfl
theorem e_L_thoseInRow (d : Nat) {h : sn_H} {w : sn_Lw} {b : sn_Bk} {ad ru : Nat} (hw : WL w) (hb : WB w.1 b) (hR : BR h w b ad ru) (h5 : bk b = 5) {r s : Nat} {rv : Int32} {sv : Int64} (e1 : rv = nI r) (e2 : sv = lN s) (hr : r < 6) (hs : s < 2 ^ 32) {f : Nat → Int64} {R : Nat} (hF : h[ad + 4]? = some (.inl (1, 6, .inr (.inl f)))) (hfR : f r = lN R) (hR2 : R < 2 ^ 32) : Sp (d + 2) me_L_thoseInRow [.ref ad, .int rv, .long sv] h (some (.long (lN (tin w b r R s)))) h := by
  subst e1; subst e2
  have hm := hb.2.1
  have hB := hR.1.1
  have hbx : bex b ad = [.ref (ad + 3), .ref (ad + 4), .int (nI (bc b))] := by unfold bex; rw [if_neg (by omega), if_neg (by omega), if_pos h5]
  rw [h5, hbx] at hB
  refine Sp.of ok_L_thoseInRow trivial rfl ?_
  have L : ∀ (n : Nat) (i : Nat) (av : Int64) (iv : Int32), (i + n = 32) → (av = lN (orf (fun x => if s.testBit x && R.testBit (lpl w b r x) then 2 ^ x else 0) i)) → (iv = nI i) → Ev o0 (d + 2) me_L_thoseInRow 6 [.ref ad, .int (nI r), .long (lN s), .retAddr 0, .long av, .retAddr 0, .int iv] [] h (some (.long (lN (tin w b r R s)))) h := by
    intro n
    induction n using Nat.strongRecOn with
    | _ n ih =>
      intro i av iv k1 k2 e3
      subst k2
      subst e3
      refine Ev.go 2 rfl ?_
      refine Ev.ige rfl rfl rfl (by omega) (by omega) (fun c10 => ?_) (fun c10 => ?_)
      · refine Ev.go 1 rfl ?_
        exact Ev.retl rfl (by rw [show i = 32 by omega]; rfl)
      refine Ev.go 2 rfl ?_
      refine Ev.cs (E' := me_X_has) rfl mk_X_has ls_8_41 rfl rfl (e_X_has (d + 1) _ rfl rfl (by omega) (by omega)) ?_
      refine Ev.zb rfl rfl (fun c19 => ?_) (fun c19 => ?_)
      · refine Ev.go 2 rfl ?_
        exact ih (n - 1) (by omega) (i + 1) _ _ (by omega) (by simp [orf, c19]) (by rw [nI_add])
      refine Ev.go 1 rfl ?_
      refine Ev.gf rfl lf_8_15_8 hB rfl ?_
      refine Ev.go 1 rfl ?_
      refine Ev.lln rfl hF rfl (by omega) (by omega) ?_
      rw [hfR]
      refine Ev.go 3 rfl ?_
      refine Ev.cv (E' := me_L_placeInRow) rfl mk_L_placeInRow lv_8_38_8 rfl hB rfl (e_L_placeInRow d hw hb hR.1 h5 rfl rfl (by omega) (by omega)) ?_
      refine Ev.cs (E' := me_X_has) rfl mk_X_has ls_8_41 rfl rfl (e_X_has (d + 1) _ rfl rfl (by omega) (by have := lpl_lt (w := w) hb r i; omega)) ?_
      refine Ev.zb rfl rfl (fun c38 => ?_) (fun c38 => ?_)
      · refine Ev.go 2 rfl ?_
        exact ih (n - 1) (by omega) (i + 1) _ _ (by omega) (by simp [orf, c19, c38]) (by rw [nI_add])
      refine Ev.go 8 rfl ?_
      exact ih (n - 1) (by omega) (i + 1) _ _ (by omega) (by rw [sh1 (by omega)]; exact or_step (by simp [c19, c38])) (by rw [nI_add])
  refine Ev.go 4 rfl ?_
  exact L 32 0 _ _ (by omega) rfl rfl
theorem BR.rowL {h h' : sn_H} {w : sn_Lw} {b : sn_Bk} {ad ru : Nat} (q : BR h w b ad ru) (h5 : bk b = 5) (g : AG h h' (ad + 4) 1) (k4 : JR h' (ad + 4) 6) : BR h' w b ad ru := by
  have e7 : bln b = 5 := by unfold bln; rw [if_neg (by omega), if_neg (by omega), if_pos h5]
  have ne : ∀ c, c < ad + 4 → h'[c]? = h[c]? := fun c hc => g.2 c (by omega)
  have q0 := q
  obtain ⟨_, _, hr⟩ := q.1.2.cell
  obtain ⟨⟨hB, hRU⟩, ⟨f1, hN, hn⟩, ⟨f2, hT, ht⟩, hU, hF, hL, h0⟩ := q
  obtain ⟨⟨f3, k3, k⟩, _⟩ := hL h5
  exact ⟨⟨by rw [ne ad (by omega)]; exact hB, hRU.ag (g.mono (a' := ad) (n' := bln b) (by omega) (by omega)) (q0.out3 hr) (fun c f hc => q0.out2 hc)⟩, ⟨f1, by rw [ne _ (by omega)]; exact hN, hn⟩, ⟨f2, by rw [ne _ (by omega)]; exact hT, ht⟩, fun e => absurd e (by omega), fun e => absurd e (by omega), fun _ => ⟨⟨f3, by rw [ne _ (by omega)]; exact k3, k⟩, k4⟩, h0⟩
theorem BR.rows {h h' : sn_H} {w : sn_Lw} {b : sn_Bk} {ad ru c : Nat} {g' : Nat → Nat} (q : BR h w b ad ru) (h5 : bk b = 5) (g : AG h h' ad (bln b)) (kB : h'[ad]? = some (.inr (8, bfs b ad ru [.ref (ad + 3), .ref (ad + 4), .int (nI c)]))) (k1 : h'[ad + 1]? = h[ad + 1]?) (k2 : h'[ad + 2]? = h[ad + 2]?) {f : Nat → Int64} (k3 : h'[ad + 3]? = some (.inl (1, 6, .inr (.inl f)))) (hf : ∀ i, i < c → f i = lN (g' i)) (k4 : JR h' (ad + 4) 6) : BR h' w (bru b c g') ad ru := by
  have q0 := q
  obtain ⟨_, _, hr⟩ := q.1.2.cell
  obtain ⟨⟨hB, hRU⟩, ⟨f1, hN, hn⟩, ⟨f2, hT, ht⟩, _⟩ := q
  have hbx : bex (bru b c g') ad = [.ref (ad + 3), .ref (ad + 4), .int (nI c)] := by
    have h5' : bk (bru b c g') = 5 := h5
    unfold bex; rw [if_neg (by omega), if_neg (by omega), if_pos h5']; rfl
  refine ⟨⟨?_, hRU.ag g (q0.out3 hr) (fun c f hc => q0.out2 hc)⟩, ⟨f1, k1.trans hN, hn⟩, ⟨f2, k2.trans hT, ht⟩, fun e => absurd (show bk b = 3 from e) (by omega), fun e => absurd (show bk b = 4 from e) (by omega), fun _ => ⟨⟨f, k3, hf⟩, k4⟩, fun e => absurd h5 e⟩
  rw [kB, hbx, show bk (bru b c g') + 3 = 8 by show bk b + 3 = 8; omega]
  rfl
def PB (h : sn_H) (w : sn_Lw) (b : sn_Bk) (ad ru : Nat) (z : Option sn_Bk) (r : Option Value) (h' : sn_H) : Prop := r = some (.int (b2i z.isSome)) ∧ AG h h' ad (bln b) ∧ BR h' w (z.getD b) ad ru
theorem PB.rc {h : sn_H} {w : sn_Lw} {b : sn_Bk} {ad ru : Nat} {z : Option sn_Bk} {r : Option Value} {h' : sn_H} (q : PB h w b ad ru z r h') : sn_rc (some .boolean) r := by
  obtain ⟨rfl, _⟩ := q; exact b2i_rc _
theorem getD_snoc (T : List Nat) (v : Nat) : (T ++ [v]).getD T.length 0 = v := by simp
theorem getD_app {T : List Nat} (v : List Nat) {j : Nat} (h : j < T.length) : (T ++ v).getD j 0 = T.getD j 0 := by
  rw [List.getD_eq_getElem?_getD, List.getD_eq_getElem?_getD, List.getElem?_append_left h]
theorem e_L_rebuild (d : Nat) {h : sn_H} {w : sn_Lw} {b : sn_Bk} {ad ru : Nat} (hw : WL w) (hb : WB w.1 b) (hR : BR h w b ad ru) (h5 : bk b = 5) {s0 o1 : Nat} {sv0 ov0 : Int64} (e1 : sv0 = lN s0) (e2 : ov0 = lN o1) (hs0 : s0 < 2 ^ 32) (ho1 : o1 < 2 ^ 32) : SpP (d + 3) me_L_rebuild [.ref ad, .long sv0, .long ov0] h (PB h w b ad ru ((lay w b 6 0 s0 o1).map fun T => bru b T.length (fun i => T.getD i 0))) := by
  subst e1; subst e2
  have hbx : bex b ad = [.ref (ad + 3), .ref (ad + 4), .int (nI (bc b))] := by unfold bex; rw [if_neg (by omega), if_neg (by omega), if_pos h5]
  have e7 : bln b = 5 := by unfold bln; rw [if_neg (by omega), if_neg (by omega), if_pos h5]
  obtain ⟨_, ⟨f0, hF0⟩⟩ := id (hR.2.2.2.2.2.1 h5)
  generalize hz : ((lay w b 6 0 s0 o1).map fun T => bru b T.length (fun i => T.getD i 0)) = z
  refine SpP.of ok_L_rebuild (fun r h' z => z.rc) rfl ?_
  have L : ∀ (n : Nat) (h1 : sn_H) (f : Nat → Int64) (T : List Nat) (s : Nat) (o : Nat) (sv : Int64) (ov : Int64) (mv : Int32) (v10 : Value), (T.length + n = 6) → (AG h h1 (ad + 4) 1) → (h1[ad + 4]? = some (.inl (1, 6, .inr (.inl f)))) → (∀ j, j < T.length → f j = lN (T.getD j 0)) → (s < 2 ^ 32) → (o < 2 ^ 32) → ((lay w b n T.length s o).map (fun U => T ++ U) = lay w b 6 0 s0 o1) → (sv = lN s) → (ov = lN o) → (mv = nI T.length) → EvP o0 (d + 3) me_L_rebuild 9 [.ref ad, .long (lN s0), .retAddr 0, .long (lN o1), .retAddr 0, .long sv, .retAddr 0, .long ov, .retAddr 0, .int mv, v10, .retAddr 0] [] h1 (PB h w b ad ru z) := by
    intro n
    induction n using Nat.strongRecOn with
    | _ n ih =>
      intro h1 f T s o sv ov mv v10 k1 hA hF hT hs ho hG e1 e2 e3
      subst e1
      subst e2
      subst e3
      have hR1 := hR.rowL h5 hA ⟨_, hF⟩
      have hB := hR1.1.1
      rw [h5, hbx] at hB
      obtain ⟨⟨f3, hRw, _⟩, _⟩ := hR1.2.2.2.2.2.1 h5
      have hpr := prow_lt (w := w) hb T.length s
      refine EvP.s (fun _ _ K => Ev.go 2 rfl K) ?_
      refine EvP.ige rfl rfl rfl (by omega) (by omega) (fun c13 => ?_) (fun c13 => ?_)
      · refine EvP.s (fun _ _ K => Ev.go 2 rfl K) ?_
        refine EvP.leq rfl rfl rfl rfl (by omega) (by omega) (fun c69 => ?_) (fun c69 => ?_)
        · refine EvP.s (fun _ _ K => Ev.go 1 rfl K) ?_
          refine EvP.s (fun _ _ K => Ev.gf rfl lf_8_15_8 hB rfl K) ?_
          refine EvP.s (fun _ _ K => Ev.go 2 rfl K) ?_
          refine EvP.s (fun _ _ K => Ev.gf rfl lf_8_11_8 hB rfl K) ?_
          refine EvP.s (fun _ _ K => Ev.go 2 rfl K) ?_
          refine EvP.s (fun _ _ K => Ev.kl rfl la_8_52 hF hRw rfl (by omega) (by omega) (by omega) rfl K) ?_
          have hB0 := hB
          have hB : (h1.set (ad + 3) (.inl (1, 6, .inr (.inl (va_cpy f f3 0 0 6)))))[ad]? = some (.inr (8, bfs b ad ru [.ref (ad + 3), .ref (ad + 4), .int (nI (bc b))])) := by rw [List.getElem?_set_ne (by omega)]; exact hB0
          refine EvP.s (fun _ _ K => Ev.go 2 rfl K) ?_
          refine EvP.s (fun _ _ K => Ev.pf rfl lp_L_rebuild_18_8 hB rfl rfl K) ?_
          refine EvP.s (fun _ _ K => Ev.go 1 rfl K) ?_
          refine ⟨_, _, Ev.reti rfl rfl, ?_⟩
          have hz1 : lay w b 6 0 s0 o1 = some T := by
            rw [← hG]
            cases n with
            | zero => simp only [lay]; rw [if_pos c69]; simp
            | succ m => simp only [lay]; rw [if_pos c69]; simp
          have hz2 : z = some (bru b T.length (fun i => T.getD i 0)) := by rw [← hz, hz1]; rfl
          subst hz2
          refine ⟨rfl, (hA.mono (by omega) (by omega)).trans ((AG.set h1 (a := ad) (n := bln b) _ (by omega) (by omega)).trans (AG.set _ _ (by omega) (by omega))), ?_⟩
          refine hR.rows (f := va_cpy f f3 0 0 6) h5 ((hA.mono (by omega) (by omega)).trans ((AG.set h1 (a := ad) (n := bln b) _ (by omega) (by omega)).trans (AG.set _ _ (by omega) (by omega)))) (List.getElem?_set_self (cell_lt hB)) ?_ ?_ ?_ (fun i hi => ?_) ⟨f, ?_⟩
          · rw [List.getElem?_set_ne (by omega), List.getElem?_set_ne (by omega), hA.2 _ (by omega)]
          · rw [List.getElem?_set_ne (by omega), List.getElem?_set_ne (by omega), hA.2 _ (by omega)]
          · rw [List.getElem?_set_ne (by omega)]; exact List.getElem?_set_self (cell_lt hRw)
          · rw [pk_cpy_in (Nat.zero_le _) (by omega), Nat.zero_add, Nat.sub_zero]; exact hT i hi
          · rw [List.getElem?_set_ne (by omega), List.getElem?_set_ne (by omega)]; exact hF
        refine EvP.s (fun _ _ K => Ev.go 1 rfl K) ?_
        refine ⟨_, _, Ev.reti rfl rfl, ?_⟩
        have hz2 : z = none := by
          rw [← hz, ← hG, show n = 0 by omega]
          simp only [lay]
          rw [if_neg c69]; rfl
        subst hz2
        exact ⟨rfl, hA.mono (by omega) (by omega), hR1⟩
      refine EvP.s (fun _ _ K => Ev.go 2 rfl K) ?_
      refine EvP.leq rfl rfl rfl rfl (by omega) (by omega) (fun c19 => ?_) (fun c19 => ?_)
      · refine EvP.s (fun _ _ K => Ev.go 2 rfl K) ?_
        refine EvP.leq rfl rfl rfl rfl (by omega) (by omega) (fun c69 => ?_) (fun c69 => ?_)
        · refine EvP.s (fun _ _ K => Ev.go 1 rfl K) ?_
          refine EvP.s (fun _ _ K => Ev.gf rfl lf_8_15_8 hB rfl K) ?_
          refine EvP.s (fun _ _ K => Ev.go 2 rfl K) ?_
          refine EvP.s (fun _ _ K => Ev.gf rfl lf_8_11_8 hB rfl K) ?_
          refine EvP.s (fun _ _ K => Ev.go 2 rfl K) ?_
          refine EvP.s (fun _ _ K => Ev.kl rfl la_8_52 hF hRw rfl (by omega) (by omega) (by omega) rfl K) ?_
          have hB0 := hB
          have hB : (h1.set (ad + 3) (.inl (1, 6, .inr (.inl (va_cpy f f3 0 0 6)))))[ad]? = some (.inr (8, bfs b ad ru [.ref (ad + 3), .ref (ad + 4), .int (nI (bc b))])) := by rw [List.getElem?_set_ne (by omega)]; exact hB0
          refine EvP.s (fun _ _ K => Ev.go 2 rfl K) ?_
          refine EvP.s (fun _ _ K => Ev.pf rfl lp_L_rebuild_18_8 hB rfl rfl K) ?_
          refine EvP.s (fun _ _ K => Ev.go 1 rfl K) ?_
          refine ⟨_, _, Ev.reti rfl rfl, ?_⟩
          have hz1 : lay w b 6 0 s0 o1 = some T := by
            rw [← hG]
            cases n with
            | zero => simp only [lay]; rw [if_pos c69]; simp
            | succ m => simp only [lay]; rw [if_pos c69]; simp
          have hz2 : z = some (bru b T.length (fun i => T.getD i 0)) := by rw [← hz, hz1]; rfl
          subst hz2
          refine ⟨rfl, (hA.mono (by omega) (by omega)).trans ((AG.set h1 (a := ad) (n := bln b) _ (by omega) (by omega)).trans (AG.set _ _ (by omega) (by omega))), ?_⟩
          refine hR.rows (f := va_cpy f f3 0 0 6) h5 ((hA.mono (by omega) (by omega)).trans ((AG.set h1 (a := ad) (n := bln b) _ (by omega) (by omega)).trans (AG.set _ _ (by omega) (by omega)))) (List.getElem?_set_self (cell_lt hB)) ?_ ?_ ?_ (fun i hi => ?_) ⟨f, ?_⟩
          · rw [List.getElem?_set_ne (by omega), List.getElem?_set_ne (by omega), hA.2 _ (by omega)]
          · rw [List.getElem?_set_ne (by omega), List.getElem?_set_ne (by omega), hA.2 _ (by omega)]
          · rw [List.getElem?_set_ne (by omega)]; exact List.getElem?_set_self (cell_lt hRw)
          · rw [pk_cpy_in (Nat.zero_le _) (by omega), Nat.zero_add, Nat.sub_zero]; exact hT i hi
          · rw [List.getElem?_set_ne (by omega), List.getElem?_set_ne (by omega)]; exact hF
        refine EvP.s (fun _ _ K => Ev.go 1 rfl K) ?_
        refine ⟨_, _, Ev.reti rfl rfl, ?_⟩
        have hz2 : z = none := by
          rw [← hz, ← hG, show n = 0 by omega]
          simp only [lay]
          rw [if_neg c69]; rfl
        subst hz2
        exact ⟨rfl, hA.mono (by omega) (by omega), hR1⟩
      refine EvP.s (fun _ _ K => Ev.go 1 rfl K) ?_
      refine EvP.s (fun _ _ K => Ev.gf rfl lf_8_15_8 hB rfl K) ?_
      refine EvP.s (fun _ _ K => Ev.go 4 rfl K) ?_
      refine EvP.s (fun _ _ K => Ev.cv (E' := me_L_placesInRow) rfl mk_L_placesInRow lv_8_45_8 rfl hB rfl (e_L_placesInRow d hw hb hR1.1 h5 rfl rfl (by omega) hs) K) ?_
      refine EvP.s (fun _ _ K => Ev.lsn rfl hF rfl (by omega) (by omega) K) ?_
      have hF2 : (h1.set (ad + 4) (.inl (1, 6, .inr (.inl (vp_updL f T.length (lN (prow w b T.length s)))))))[ad + 4]? = some (.inl (1, 6, .inr (.inl (vp_updL f T.length (lN (prow w b T.length s)))))) := List.getElem?_set_self (cell_lt hF)
      have hA2 : AG h (h1.set (ad + 4) (.inl (1, 6, .inr (.inl (vp_updL f T.length (lN (prow w b T.length s))))))) (ad + 4) 1 := hA.trans (AG.set h1 _ (by omega) (by omega))
      generalize h1.set (ad + 4) (.inl (1, 6, .inr (.inl (vp_updL f T.length (lN (prow w b T.length s)))))) = h2 at hF2 hA2 ⊢
      have hR2 := hR.rowL h5 hA2 ⟨_, hF2⟩
      have hB := hR2.1.1
      rw [h5, hbx] at hB
      refine EvP.s (fun _ _ K => Ev.go 3 rfl K) ?_
      refine EvP.s (fun _ _ K => Ev.cv (E' := me_L_thoseInRow) rfl mk_L_thoseInRow lv_8_49_8 rfl hB rfl (e_L_thoseInRow d hw hb hR2 h5 rfl rfl (by omega) ho hF2 (pk_uLs) hpr) K) ?_
      refine EvP.s (fun _ _ K => Ev.go 2 rfl K) ?_
      skip
      refine EvP.s (fun _ _ K => Ev.go 2 rfl K) ?_
      skip
      refine EvP.s (fun _ _ K => Ev.go 2 rfl K) ?_
      skip
      refine EvP.s (fun _ _ K => Ev.go 3 rfl K) ?_
      refine ih (n - 1) (by omega) h2 _ (T ++ [prow w b T.length s]) _ _ _ _ _ _ (by simp; omega) hA2 hF2 (fun j hj => ?_) (tin_lt w b _ _ _) hs ?_ rfl rfl (by rw [nI_add]; simp)
      · rw [List.length_append, List.length_singleton] at hj
        by_cases e : j = T.length
        · subst e; rw [getD_snoc]; exact pk_uLs
        · rw [getD_app _ (by omega), pk_uLn e]; exact hT j (by omega)
      · rw [← hG]
        obtain ⟨m, rfl⟩ : ∃ m, n = m + 1 := ⟨n - 1, by omega⟩
        rw [show m + 1 - 1 = m by omega, show (T ++ [prow w b T.length s]).length = T.length + 1 by simp]
        simp only [lay]
        rw [if_neg c19]
        cases lay w b m (T.length + 1) (tin w b T.length (prow w b T.length s) o) s with
        | none => rfl
        | some U => simp
  refine EvP.s (fun _ _ K => Ev.go 6 rfl K) ?_
  exact L 6 h f0 [] s0 o1 _ _ _ _ rfl (AG.refl _ _ _) hF0 (fun j hj => absurd hj (Nat.not_lt_zero j)) hs0 ho1 (by simp) rfl rfl rfl
