/-! THE CLASS: made -/
theorem nI_andn {a b : Nat} (ha : a < 2 ^ 31) (hb : b < 2 ^ 31) : nI a &&& (nI b ^^^ - nI 1) = nI (andn a b) := by
  have h1 : (- nI 1 : Int32) = nI (2 ^ 32 - 1) := by decide +kernel
  rw [h1, fb_xorI, fb_andI]
  congr 1
  apply Nat.eq_of_testBit_eq
  intro i
  rw [Nat.testBit_and, Nat.testBit_xor, Nat.testBit_two_pow_sub_one, andn_tb]
  by_cases hi : i < 32
  · rw [decide_eq_true hi, Bool.xor_true]
  · rw [tb_big ha (by omega)]; rfl
theorem andn_le (a b : Nat) : andn a b ≤ a := by
  have e : andn a b = a &&& andn a b := by
    apply Nat.eq_of_testBit_eq
    intro i
    rw [Nat.testBit_and, andn_tb]
    cases a.testBit i <;> rfl
  rw [e]
  exact Nat.and_le_left
theorem lN_min {a b : Nat} (ha : a < 2 ^ 63) (hb : b < 2 ^ 63) : (if lN b < lN a then lN b else lN a) = lN (min a b) := by
  by_cases e : b < a
  · rw [if_pos ((pk_lLT hb ha).mpr e), Nat.min_eq_right (by omega)]
  · rw [if_neg (fun z => e ((pk_lLT hb ha).mp z)), Nat.min_eq_left (by omega)]
theorem dp_le (s : Nat → Nat) (F : Nat) {k : Nat} (hk : k ≤ 32) (c : Nat) : dp s F k c ≤ 33 * 2 ^ 32 := (dp_ok s F k hk c).1
theorem dp_s {s : Nat → Nat} {F x c : Nat} (h : F.testBit x = true) : dp s F (x + 1) c = min (dp s F x c) (dp s F x (andn c (s x)) + 2 ^ 32 + 2 ^ x) := by
  show (if F.testBit x then _ else _) = _
  rw [if_pos h]
theorem dp_n {s : Nat → Nat} {F x c : Nat} (h : ¬ F.testBit x = true) : dp s F (x + 1) c = dp s F x c := by
  show (if F.testBit x then _ else _) = _
  rw [if_neg h]
theorem e_V_squeeze (d : Nat) (h : sn_H) {P S : Nat} {pv sv : Int64} (e1 : pv = lN P) (e2 : sv = lN S) (hp : P < 2 ^ 32) (hS : S < 2 ^ 32) (h12 : pcnt S ≤ 12) : Sp (d + 1) me_V_squeeze [.long pv, .long sv] h (some (.int (nI (sq P S)))) h := by
  subst e1; subst e2
  refine Sp.of ok_V_squeeze trivial rfl ?_
  have L : ∀ (n : Nat) (i : Nat) (av : Int32) (cv : Int32) (iv : Int32), (i + n = 32) → (av = nI (sqF P S i).1) → (cv = nI (sqF P S i).2) → (iv = nI i) → Ev o0 (d + 1) me_V_squeeze 9 [.long (lN P), .retAddr 0, .long (lN S), .retAddr 0, .int av, .int cv, .int iv] [] h (some (.int (nI (sq P S)))) h := by
    intro n
    induction n using Nat.strongRecOn with
    | _ n ih =>
      intro i av cv iv h1 e1 e2 e3
      subst e1
      subst e2
      subst e3
      have hct : (sqF P S i).2 ≤ pcnt S := by
        rw [sqF_ct, pcnt_ct hS]
        exact ctf_mn _ (by omega)
      refine Ev.go 2 rfl ?_
      refine Ev.ige rfl rfl rfl (by omega) (by omega) (fun c13 => ?_) (fun c13 => ?_)
      · refine Ev.go 1 rfl ?_
        exact Ev.reti rfl (by rw [show i = 32 by omega]; rfl)
      refine Ev.go 2 rfl ?_
      refine Ev.cs (E' := me_X_has) rfl mk_X_has ls_9_41 rfl rfl (e_X_has d _ rfl rfl (by omega) (by omega)) ?_
      refine Ev.zb rfl rfl (fun c22 => ?_) (fun c22 => ?_)
      · refine Ev.go 2 rfl ?_
        refine ih (n - 1) (by omega) (i + 1) _ _ _ (by omega) ?_ ?_ (by rw [nI_add])
        · rw [sqF_n c22]
        · rw [sqF_n c22]
      refine Ev.go 2 rfl ?_
      refine Ev.cs (E' := me_X_has) rfl mk_X_has ls_9_41 rfl rfl (e_X_has d _ rfl rfl (by omega) (by omega)) ?_
      refine Ev.zb rfl rfl (fun c31 => ?_) (fun c31 => ?_)
      · refine Ev.go 3 rfl ?_
        refine ih (n - 1) (by omega) (i + 1) _ _ _ (by omega) ?_ ?_ (by rw [nI_add])
        · rw [sqF_f c22 c31]; exact (congrArg nI (Nat.or_zero _)).symm
        · rw [sqF_f c22 c31, nI_add]
      refine Ev.go 9 rfl ?_
      refine ih (n - 1) (by omega) (i + 1) _ _ _ (by omega) ?_ ?_ (by rw [nI_add])
      · rw [sqF_t c22 c31, shI31 _ (by omega)]; exact fb_orI _ _
      · rw [sqF_t c22 c31, nI_add]
  refine Ev.go 6 rfl ?_
  exact L 32 0 _ _ _ (by omega) rfl rfl rfl
def PV (h : sn_H) (c N : Nat) (T : Nat → Nat) (r : Option Value) (h' : sn_H) : Prop := r = none ∧ AG h h' (c + 1) 1 ∧ ∃ g : Nat → Int64, h'[c + 1]? = some (.inl (1, 4096, .inr (.inl g))) ∧ ∀ a, a ≤ N → g a = lN (T a)
theorem PV.rc {h : sn_H} {c N : Nat} {T : Nat → Nat} {r : Option Value} {h' : sn_H} (q : PV h c N T r h') : sn_rc none r := by
  obtain ⟨rfl, _⟩ := q; trivial
theorem e_V_letKeyHelp (d : Nat) {h : sn_H} {c x N F : Nat} {s : Nat → Nat} {xv mv nv : Int32} (e1 : xv = nI x) (e2 : mv = nI (s x)) (e3 : nv = nI N) (hx : x < 32) (hN : N < 4096) (hs : s x < 4096) (hF : F.testBit x = true) (hC0 : h[c]? = some (.inr (9, [.ref (c + 1)]))) {g0 : Nat → Int64} (hG0 : h[c + 1]? = some (.inl (1, 4096, .inr (.inl g0)))) (hg0 : ∀ a, a ≤ N → g0 a = lN (dp s F x a)) : SpP (d + 1) me_V_letKeyHelp [.ref c, .int xv, .int mv, .int nv] h (PV h c N (dp s F (x + 1))) := by
  subst e1; subst e2; subst e3
  refine SpP.of ok_V_letKeyHelp (fun r h' z => z.rc) rfl ?_
  have L : ∀ (i : Nat) (h1 : sn_H) (g : Nat → Int64) (iv : Int32) (v5 : Value), (i ≤ N) → (AG h h1 (c + 1) 1) → (h1[c + 1]? = some (.inl (1, 4096, .inr (.inl g)))) → (∀ a, a ≤ N → g a = lN (if i < a then dp s F (x + 1) a else dp s F x a)) → (iv = nI i) → EvP o0 (d + 1) me_V_letKeyHelp 3 [.ref c, .int (nI x), .int (nI (s x)), .int (nI N), .int iv, v5, .retAddr 0] [] h1 (PV h c N (dp s F (x + 1))) := by
    intro i
    induction i using Nat.strongRecOn with
    | _ i ih =>
      intro h1 g iv v5 k1 hA hG hg e3
      subst e3
      have hC : h1[c]? = _ := (hA.2 c (by omega)).trans hC0
      have hal := andn_le i (s x)
      have hd1 := dp_le s F (k := x) (by omega) i
      have hd2 := dp_le s F (k := x) (by omega) (andn i (s x))
      have h2x : 2 ^ x < 2 ^ 32 := wb_lt2 hx
      refine EvP.s (fun _ _ K => Ev.go 1 rfl K) ?_
      refine EvP.zle rfl rfl (by omega) (fun c5 => ?_) (fun c5 => ?_)
      · refine ⟨_, _, Ev.retv rfl, ?_⟩
        refine ⟨rfl, hA, g, hG, fun a ha => ?_⟩
        rw [hg a ha]
        by_cases e : 0 < a
        · rw [if_pos (by omega)]
        · have ea : a = 0 := by omega
          subst ea
          rw [if_neg (by omega), dp_0, dp_0]
      refine EvP.s (fun _ _ K => Ev.go 1 rfl K) ?_
      refine EvP.s (fun _ _ K => Ev.gf rfl lf_9_11_9 hC rfl K) ?_
      refine EvP.s (fun _ _ K => Ev.go 5 rfl K) ?_
      refine EvP.s (fun _ _ K => Ev.lln rfl hG (nI_andn (by omega) (by omega)) (by omega) (by omega) K) ?_
      rw [hg _ (by omega), if_neg (by omega)]
      refine EvP.s (fun _ _ K => Ev.go 6 rfl K) ?_
      rw [sh1 (by omega)]
      refine EvP.s (fun _ _ K => Ev.go 2 rfl K) ?_
      refine EvP.s (fun _ _ K => Ev.gf rfl lf_9_11_9 hC rfl K) ?_
      refine EvP.s (fun _ _ K => Ev.go 2 rfl K) ?_
      refine EvP.s (fun _ _ K => Ev.gf rfl lf_9_11_9 hC rfl K) ?_
      refine EvP.s (fun _ _ K => Ev.go 1 rfl K) ?_
      refine EvP.s (fun _ _ K => Ev.lln rfl hG rfl (by omega) (by omega) K) ?_
      rw [hg _ (by omega), if_neg (by omega)]
      refine EvP.s (fun _ _ K => Ev.go 1 rfl K) ?_
      refine EvP.s (fun _ _ K => Ev.mnl rfl lm_9_35 rfl K) ?_
      have hgo : ∀ z : Int64, z = z := fun _ => rfl
      refine EvP.s (fun _ _ K => Ev.lsn rfl hG rfl (by omega) (by omega) K) ?_
      refine EvP.s (fun _ _ K => Ev.go 2 rfl K) ?_
      obtain ⟨m, rfl⟩ : ∃ m, i = m + 1 := ⟨i - 1, by omega⟩
      refine ih m (by omega) _ _ _ _ (by omega) (hA.trans (AG.set h1 _ (by omega) (by omega))) (List.getElem?_set_self (cell_lt hG)) (fun a ha => ?_) dec1
      by_cases e : a = m + 1
      · subst e
        rw [pk_uLs]
        refine Eq.trans ?_ (congrArg lN ((if_pos (show m < m + 1 by omega)).trans (dp_s hF)).symm)
        refine Eq.trans ?_ (lN_min (a := dp s F x (m + 1)) (b := dp s F x (andn (m + 1) (s x)) + 2 ^ 32 + 2 ^ x) (by omega) (by omega))
        rw [← lN_addN, ← lN_addN]
        rfl
      · rw [pk_uLn e, hg a ha]
        by_cases e2 : m + 1 < a
        · rw [if_pos e2, if_pos (by omega)]
        · rw [if_neg e2, if_neg (by omega)]
  refine EvP.s (fun _ _ K => Ev.go 2 rfl K) ?_
  exact L N h g0 _ _ (Nat.le_refl _) (AG.refl _ _ _) hG0 (fun a ha => by rw [if_neg (by omega)]; exact hg0 a ha) rfl
def PVl (h : sn_H) (c v : Nat) (r : Option Value) (h' : sn_H) : Prop := r = some (.long (lN v)) ∧ AG h h' (c + 1) 1 ∧ JR h' (c + 1) 4096
theorem PVl.rc {h : sn_H} {c v : Nat} {r : Option Value} {h' : sn_H} (q : PVl h c v r h') : sn_rc (some .long) r := by
  obtain ⟨rfl, _⟩ := q; trivial
theorem e_V_leastSet (d : Nat) {h : sn_H} {c S : Nat} {P : Nat → Nat} {sv : Int64} (e1 : sv = lN S) (hS : S < 2 ^ 32) (h12 : pcnt S ≤ 12) (hc : 27 ≤ c) (hC0 : h[c]? = some (.inr (9, [.ref (c + 1)]))) (hJ : JR h (c + 1) 4096) {f : Nat → Int64} (h40 : h[4]? = some (.inl (1, 32, .inr (.inl f)))) (hf : ∀ y, y < 32 → f y = lN (P y)) (hPl : ∀ y, y < 32 → P y < 2 ^ 32) : SpP (d + 2) me_V_leastSet [.ref c, .ref 4, .long sv] h (PVl h c (mdv P S)) := by
  subst e1
  have h13 : 2 ^ pcnt S ≤ 2 ^ 12 := Nat.pow_le_pow_right (by omega) h12
  have h13b := Nat.two_pow_pos (pcnt S)
  obtain ⟨g0, hG0⟩ := hJ
  have hp32 := pcnt_le hS
  refine SpP.of ok_V_leastSet (fun r h' z => z.rc) rfl ?_
  have L2 : ∀ (n : Nat) (h1 : sn_H) (g : Nat → Int64) (x : Nat) (xv : Int32), (x + n = 32) → (AG h h1 (c + 1) 1) → (h1[c + 1]? = some (.inl (1, 4096, .inr (.inl g)))) → (∀ a, a ≤ (2 ^ pcnt S - 1) → g a = lN (dp (fun y => sq (P y) S) (fits P S 32) x a)) → (xv = nI x) → EvP o0 (d + 2) me_V_leastSet 61 [.ref c, .ref 4, .long (lN S), .retAddr 0, .int (nI (pcnt S)), .int (nI (2 ^ pcnt S - 1)), .int xv] [] h1 (PVl h c (mdv P S)) := by
    intro n
    induction n using Nat.strongRecOn with
    | _ n ih =>
      intro h1 g x xv k1 hA hG hg e3
      subst e3
      have hC : h1[c]? = _ := (hA.2 c (by omega)).trans hC0
      have h4 : h1[4]? = _ := (hA.2 4 (by omega)).trans h40
      refine EvP.s (fun _ _ K => Ev.go 2 rfl K) ?_
      refine EvP.ige rfl rfl rfl (by omega) (by omega) (fun c65 => ?_) (fun c65 => ?_)
      · refine EvP.s (fun _ _ K => Ev.go 1 rfl K) ?_
        refine EvP.s (fun _ _ K => Ev.gf rfl lf_9_11_9 hC rfl K) ?_
        refine EvP.s (fun _ _ K => Ev.go 1 rfl K) ?_
        refine EvP.s (fun _ _ K => Ev.lln rfl hG rfl (by omega) (by omega) K) ?_
        rw [hg _ (Nat.le_refl _)]
        refine ⟨_, _, Ev.retl rfl rfl, ?_⟩
        have ex : x = 32 := by omega
        subst ex
        exact ⟨rfl, hA, g, hG⟩
      refine EvP.s (fun _ _ K => Ev.go 2 rfl K) ?_
      refine EvP.s (fun _ _ K => Ev.ln rfl h4 rfl K) ?_
      refine EvP.ige rfl rfl rfl (by omega) (by omega) (fun c72 => ?_) (fun c72 => ?_)
      · refine EvP.s (fun _ _ K => Ev.go 1 rfl K) ?_
        refine EvP.s (fun _ _ K => Ev.gf rfl lf_9_11_9 hC rfl K) ?_
        refine EvP.s (fun _ _ K => Ev.go 1 rfl K) ?_
        refine EvP.s (fun _ _ K => Ev.lln rfl hG rfl (by omega) (by omega) K) ?_
        rw [hg _ (Nat.le_refl _)]
        refine ⟨_, _, Ev.retl rfl rfl, ?_⟩
        have ex : x = 32 := by omega
        subst ex
        exact ⟨rfl, hA, g, hG⟩
      refine EvP.s (fun _ _ K => Ev.go 2 rfl K) ?_
      refine EvP.s (fun _ _ K => Ev.lln rfl h4 rfl (by omega) (by omega) K) ?_
      rw [hf x (by omega)]
      refine EvP.s (fun _ _ K => Ev.go 4 rfl K) ?_
      rw [lN_andn]
      refine EvP.s (fun _ _ K => Ev.go 1 rfl K) ?_
      refine EvP.lne rfl rfl rfl rfl (by have := andn_lt (b := S) (hPl x (by omega)); omega) (by omega) (fun c86 => ?_) (fun c86 => ?_)
      · refine EvP.s (fun _ _ K => Ev.go 2 rfl K) ?_
        exact ih (n - 1) (by omega) h1 g (x + 1) _ (by omega) hA hG (fun a ha => by rw [hg a ha, dp_n (fun z => c86 (fits_tb.mp z).2)]) (by rw [nI_add])
      refine EvP.s (fun _ _ K => Ev.go 4 rfl K) ?_
      refine EvP.s (fun _ _ K => Ev.lln rfl h4 rfl (by omega) (by omega) K) ?_
      rw [hf x (by omega)]
      refine EvP.s (fun _ _ K => Ev.go 1 rfl K) ?_
      refine EvP.s (fun _ _ K => Ev.cs (E' := me_V_squeeze) rfl mk_V_squeeze ls_9_25 rfl rfl (e_V_squeeze d _ rfl rfl (hPl x (by omega)) hS h12) K) ?_
      refine EvP.s (fun _ _ K => Ev.go 1 rfl K) ?_
      have hsl := sq_lt (p := P x) hS
      obtain ⟨r2, h2, sp2, er, hA2, g2, hG2, hg2⟩ := e_V_letKeyHelp (d := d) (s := (fun y => sq (P y) S)) (F := (fits P S 32)) (rfl : nI x = nI x) (rfl : nI (sq (P x) S) = _) (rfl : nI (2 ^ pcnt S - 1) = _) (by omega) (by omega) (show sq (P x) S < 4096 by omega) (fits_tb.mpr ⟨by omega, c86⟩) hC hG hg
      subst er
      refine EvP.s (fun _ _ K => Ev.cv0 (E' := me_V_letKeyHelp) rfl mk_V_letKeyHelp lv_9_29_9 rfl hC rfl (sp2) K) ?_
      refine EvP.s (fun _ _ K => Ev.go 2 rfl K) ?_
      exact ih (n - 1) (by omega) h2 g2 (x + 1) _ (by omega) (hA.trans hA2) hG2 hg2 (by rw [nI_add])
  have L1 : ∀ (n : Nat) (h1 : sn_H) (g : Nat → Int64) (i : Nat) (iv : Int32), (i + n = (2 ^ pcnt S - 1) + 1) → (1 ≤ i) → (AG h h1 (c + 1) 1) → (h1[c + 1]? = some (.inl (1, 4096, .inr (.inl g)))) → (∀ a, a < i → g a = lN (dp (fun y => sq (P y) S) (fits P S 32) 0 a)) → (iv = nI i) → EvP o0 (d + 2) me_V_leastSet 35 [.ref c, .ref 4, .long (lN S), .retAddr 0, .int (nI (pcnt S)), .int (nI (2 ^ pcnt S - 1)), .int iv] [] h1 (PVl h c (mdv P S)) := by
    intro n
    induction n using Nat.strongRecOn with
    | _ n ih =>
      intro h1 g i iv k1 k2 hA hG hg e3
      subst e3
      have hC : h1[c]? = _ := (hA.2 c (by omega)).trans hC0
      refine EvP.s (fun _ _ K => Ev.go 2 rfl K) ?_
      refine EvP.igt rfl rfl rfl (by omega) (by omega) (fun c39 => ?_) (fun c39 => ?_)
      · refine EvP.s (fun _ _ K => Ev.go 2 rfl K) ?_
        exact L2 32 h1 g 0 _ (by omega) hA hG (fun a ha => hg a (by omega)) rfl
      refine EvP.s (fun _ _ K => Ev.go 1 rfl K) ?_
      refine EvP.s (fun _ _ K => Ev.gf rfl lf_9_11_9 hC rfl K) ?_
      refine EvP.s (fun _ _ K => Ev.go 2 rfl K) ?_
      refine EvP.s (fun _ _ K => Ev.lsn rfl hG rfl (by omega) (by omega) K) ?_
      refine EvP.s (fun _ _ K => Ev.go 2 rfl K) ?_
      refine ih (n - 1) (by omega) _ _ (i + 1) _ (by omega) (by omega) (hA.trans (AG.set h1 _ (by omega) (by omega))) (List.getElem?_set_self (cell_lt hG)) (fun a ha => ?_) (by rw [nI_add])
      by_cases e : a = i
      · subst e
        rw [pk_uLs]
        show _ = lN (if a = 0 then 0 else sNO)
        rw [if_neg (by omega)]
        rfl
      · rw [pk_uLn e]; exact hg a (by omega)
  refine EvP.s (fun _ _ K => Ev.go 1 rfl K) ?_
  refine EvP.s (fun _ _ K => Ev.cs (E' := me_JL_bitCount) rfl mk_JL_bitCount ls_9_15 rfl rfl (e_JL_bitCount (d + 1) _ rfl hS) K) ?_
  refine EvP.s (fun _ _ K => Ev.go 3 rfl K) ?_
  refine EvP.ile rfl rfl rfl (by omega) (by omega) (fun c10 => ?_) (fun c10 => ?_)
  · refine EvP.s (fun _ _ K => Ev.go 6 rfl K) ?_
    rw [shI31 _ (by omega), show nI (2 ^ pcnt S) - nI 1 = nI (2 ^ pcnt S - 1) by
      obtain ⟨z, ez⟩ : ∃ z, 2 ^ pcnt S = z + 1 := ⟨2 ^ pcnt S - 1, by omega⟩
      rw [ez, dec1, Nat.add_sub_cancel]]
    refine EvP.s (fun _ _ K => Ev.go 1 rfl K) ?_
    refine EvP.s (fun _ _ K => Ev.gf rfl lf_9_11_9 hC0 rfl K) ?_
    refine EvP.s (fun _ _ K => Ev.go 2 rfl K) ?_
    refine EvP.s (fun _ _ K => Ev.lsn rfl hG0 rfl (by omega) (by omega) K) ?_
    refine EvP.s (fun _ _ K => Ev.go 2 rfl K) ?_
    refine L1 (2 ^ pcnt S - 1) _ _ 1 _ (by omega) (by omega) (AG.set h _ (by omega) (by omega)) (List.getElem?_set_self (cell_lt hG0)) (fun a ha => ?_) rfl
    have ea : a = 0 := by omega
    subst ea
    exact pk_uLs
  exact absurd c10 (by omega)
theorem reach_eq (P : Nat → Nat) (S : Nat) : orf (fun x => if andn (P x) S = 0 then P x else 0) 32 = uno P (fits P S 32) (-1) 32 := by
  unfold uno
  refine orf_cong (fun x hx => ?_)
  by_cases e : andn (P x) S = 0
  · rw [if_pos e, if_pos ⟨fits_tb.mpr ⟨hx, e⟩, by omega⟩]
  · rw [if_neg e, if_neg (fun z => e (fits_tb.mp z.1).2)]
def may (P : Nat → Nat) (S : Nat) : Nat := if uno P (fits P S 32) (-1) 32 = S then fits P S 32 else 0
theorem may_lt (P : Nat → Nat) (S : Nat) : may P S < 2 ^ 32 := by
  unfold may; split
  · exact fits_lt P S (Nat.le_refl _)
  · omega
theorem e_X_makers (d : Nat) {h : sn_H} {v1 v2 v3 : Value} (hX : h[1]? = some (.inr (0, [.ref 2, v1, .ref 3, v2, .ref 4, v3]))) {P : Nat → Nat} {f : Nat → Int64} (h4 : h[4]? = some (.inl (1, 32, .inr (.inl f)))) (hf : ∀ y, y < 32 → f y = lN (P y)) (hPl : ∀ y, P y < 2 ^ 32) {S : Nat} {sv : Int64} (e1 : sv = lN S) (hS : S < 2 ^ 32) : Sp d me_X_makers [.ref 1, .long sv] h (some (.long (lN (may P S)))) h := by
  subst e1
  refine Sp.of ok_X_makers trivial rfl ?_
  have L : ∀ (n : Nat) (i : Nat) (mv : Int64) (rv : Int64) (iv : Int32), (i + n = 32) → (mv = lN (fits P S i)) → (rv = lN (orf (fun x => if andn (P x) S = 0 then P x else 0) i)) → (iv = nI i) → Ev o0 d me_X_makers 8 [.ref 1, .long (lN S), .retAddr 0, .long mv, .retAddr 0, .long rv, .retAddr 0, .int iv] [] h (some (.long (lN (may P S)))) h := by
    intro n
    induction n using Nat.strongRecOn with
    | _ n ih =>
      intro i mv rv iv k1 e1 e2 e3
      subst e1
      subst e2
      subst e3
      refine Ev.go 2 rfl ?_
      refine Ev.ige rfl rfl rfl (by omega) (by omega) (fun c12 => ?_) (fun c12 => ?_)
      · refine Ev.go 2 rfl ?_
        refine Ev.lne rfl rfl rfl rfl (by have := orf_lt (f := fun x => if andn (P x) S = 0 then P x else 0) (k := 32) (fun j => by split; exact hPl j; omega) i; omega) (by omega) (fun c61 => ?_) (fun c61 => ?_)
        · refine Ev.go 1 rfl ?_
          exact Ev.retl rfl (by
                have ei : i = 32 := by omega
                subst ei
                rw [reach_eq] at c61
                unfold may
                rw [if_neg c61])
        refine Ev.go 2 rfl ?_
        exact Ev.retl rfl (by
              have ei : i = 32 := by omega
              subst ei
              rw [reach_eq] at c61
              unfold may
              rw [if_pos c61])
      refine Ev.go 1 rfl ?_
      refine Ev.gf rfl lf_0_28_0 hX rfl ?_
      refine Ev.go 1 rfl ?_
      refine Ev.lln rfl h4 rfl (by omega) (by omega) ?_
      rw [hf i (by omega)]
      refine Ev.go 4 rfl ?_
      rw [lN_andn]
      refine Ev.go 1 rfl ?_
      refine Ev.lne rfl rfl rfl rfl (by have := andn_lt (b := S) (hPl i); omega) (by omega) (fun c29 => ?_) (fun c29 => ?_)
      · refine Ev.go 2 rfl ?_
        refine ih (n - 1) (by omega) (i + 1) _ _ _ (by omega) ?_ ?_ (by rw [nI_add])
        · show _ = lN (fits P S i ||| (if andn (P i) S = 0 then 2 ^ i else 0))
          rw [if_neg c29, Nat.or_zero]
        · show _ = lN (orf (fun x => if andn (P x) S = 0 then P x else 0) i ||| (if andn (P i) S = 0 then P i else 0))
          rw [if_neg c29, Nat.or_zero]
      refine Ev.go 8 rfl ?_
      refine Ev.gf rfl lf_0_28_0 hX rfl ?_
      refine Ev.go 1 rfl ?_
      refine Ev.lln rfl h4 rfl (by omega) (by omega) ?_
      rw [hf i (by omega)]
      refine Ev.go 4 rfl ?_
      refine ih (n - 1) (by omega) (i + 1) _ _ _ (by omega) ?_ ?_ (by rw [nI_add])
      · show _ = lN (fits P S i ||| (if andn (P i) S = 0 then 2 ^ i else 0))
        rw [if_pos c29, sh1 (by omega)]; exact fb_orL _ _
      · show _ = lN (orf (fun x => if andn (P x) S = 0 then P x else 0) i ||| (if andn (P i) S = 0 then P i else 0))
        rw [if_pos c29]; exact fb_orL _ _
  refine Ev.go 6 rfl ?_
  exact L 32 0 _ _ _ (by omega) rfl rfl rfl
theorem e_X_sureMakers (d : Nat) {h : sn_H} {v1 v2 v3 : Value} (hX : h[1]? = some (.inr (0, [.ref 2, v1, .ref 3, v2, .ref 4, v3]))) {P : Nat → Nat} {f : Nat → Int64} (h4 : h[4]? = some (.inl (1, 32, .inr (.inl f)))) (hf : ∀ y, y < 32 → f y = lN (P y)) (hPl : ∀ y, P y < 2 ^ 32) {S : Nat} {sv : Int64} (e1 : sv = lN S) (hS : S < 2 ^ 32) : Sp (d + 1) me_X_sureMakers [.ref 1, .long sv] h (some (.long (lN (surX P (may P S) 32)))) h := by
  subst e1
  have hml := may_lt P S
  refine Sp.of ok_X_sureMakers trivial rfl ?_
  have L2 : ∀ (n : Nat) (i : Nat) (sv : Int64) (iv : Int32), (i + n = 32) → (sv = lN (surX P (may P S) i)) → (iv = nI i) → Ev o0 (d + 1) me_X_sureMakers 70 [.ref 1, .long (lN S), .retAddr 0, .long (lN (may P S)), .retAddr 0, .long (lN (orf (fun x => if (may P S).testBit x then P x else 0) 32)), .retAddr 0, .long (lN (twc (fun x => (may P S).testBit x) P 32)), .retAddr 0, .long sv, .retAddr 0, .int iv] [] h (some (.long (lN (surX P (may P S) 32)))) h := by
    intro n
    induction n using Nat.strongRecOn with
    | _ n ih =>
      intro i sv iv k1 e1 e3
      subst e1
      subst e3
      refine Ev.go 2 rfl ?_
      refine Ev.ige rfl rfl rfl (by omega) (by omega) (fun c74 => ?_) (fun c74 => ?_)
      · refine Ev.go 1 rfl ?_
        exact Ev.retl rfl (by rw [show i = 32 by omega])
      refine Ev.go 2 rfl ?_
      refine Ev.cs (E' := me_X_has) rfl mk_X_has ls_0_57 rfl rfl (e_X_has d _ rfl rfl (by omega) (by omega)) ?_
      refine Ev.zb rfl rfl (fun c83 => ?_) (fun c83 => ?_)
      · refine Ev.go 2 rfl ?_
        refine ih (n - 1) (by omega) (i + 1) _ _ (by omega) ?_ (by rw [nI_add])
        show _ = lN (surX P (may P S) i ||| (if (may P S).testBit i = true ∧ ¬ andn (P i &&& orf (fun x => if (may P S).testBit x then P x else 0) 32) (twc (fun x => (may P S).testBit x) P 32) = 0 then 2 ^ i else 0))
        rw [if_neg (fun w => by rw [c83] at w; cases w.1), Nat.or_zero]
      refine Ev.go 1 rfl ?_
      refine Ev.gf rfl lf_0_28_0 hX rfl ?_
      refine Ev.go 1 rfl ?_
      refine Ev.lln rfl h4 rfl (by omega) (by omega) ?_
      rw [hf i (by omega)]
      refine Ev.go 6 rfl ?_
      rw [fb_andL, lN_andn]
      refine Ev.go 1 rfl ?_
      refine Ev.leq rfl rfl rfl rfl (by have := andn_lt (a := P i &&& orf (fun x => if (may P S).testBit x then P x else 0) 32) (b := twc (fun x => (may P S).testBit x) P 32) (k := 32) (Nat.lt_of_le_of_lt Nat.and_le_left (hPl i)); omega) (by omega) (fun c104 => ?_) (fun c104 => ?_)
      · refine Ev.go 2 rfl ?_
        refine ih (n - 1) (by omega) (i + 1) _ _ (by omega) ?_ (by rw [nI_add])
        show _ = lN (surX P (may P S) i ||| (if (may P S).testBit i = true ∧ ¬ andn (P i &&& orf (fun x => if (may P S).testBit x then P x else 0) 32) (twc (fun x => (may P S).testBit x) P 32) = 0 then 2 ^ i else 0))
        rw [if_neg (fun w => w.2 c104), Nat.or_zero]
      refine Ev.go 8 rfl ?_
      refine ih (n - 1) (by omega) (i + 1) _ _ (by omega) ?_ (by rw [nI_add])
      show _ = lN (surX P (may P S) i ||| (if (may P S).testBit i = true ∧ ¬ andn (P i &&& orf (fun x => if (may P S).testBit x then P x else 0) 32) (twc (fun x => (may P S).testBit x) P 32) = 0 then 2 ^ i else 0))
      rw [if_pos ⟨c83, c104⟩, sh1 (by omega)]
      exact fb_orL _ _
  have L1 : ∀ (n : Nat) (i : Nat) (ov : Int64) (tv : Int64) (iv : Int32), (i + n = 32) → (ov = lN (orf (fun x => if (may P S).testBit x then P x else 0) i)) → (tv = lN (twc (fun x => (may P S).testBit x) P i)) → (iv = nI i) → Ev o0 (d + 1) me_X_sureMakers 15 [.ref 1, .long (lN S), .retAddr 0, .long (lN (may P S)), .retAddr 0, .long ov, .retAddr 0, .long tv, .retAddr 0, .int iv, .retAddr 0, .retAddr 0] [] h (some (.long (lN (surX P (may P S) 32)))) h := by
    intro n
    induction n using Nat.strongRecOn with
    | _ n ih =>
      intro i ov tv iv k1 e1 e2 e3
      subst e1
      subst e2
      subst e3
      refine Ev.go 2 rfl ?_
      refine Ev.ige rfl rfl rfl (by omega) (by omega) (fun c19 => ?_) (fun c19 => ?_)
      · refine Ev.go 4 rfl ?_
        have ei : i = 32 := by omega
        subst ei
        exact L2 32 0 _ _ (by omega) rfl rfl
      refine Ev.go 2 rfl ?_
      refine Ev.cs (E' := me_X_has) rfl mk_X_has ls_0_57 rfl rfl (e_X_has d _ rfl rfl (by omega) (by omega)) ?_
      refine Ev.zb rfl rfl (fun c28 => ?_) (fun c28 => ?_)
      · refine Ev.go 2 rfl ?_
        refine ih (n - 1) (by omega) (i + 1) _ _ _ (by omega) ?_ ?_ (by rw [nI_add])
        · show _ = lN (orf (fun x => if (may P S).testBit x then P x else 0) i ||| (if (may P S).testBit i then P i else 0))
          rw [c28, if_neg (by decide), Nat.or_zero]
        · show _ = lN (twc (fun x => (may P S).testBit x) P i ||| (if (may P S).testBit i then orf (fun x => if (may P S).testBit x then P x else 0) i &&& P i else 0))
          rw [c28, if_neg (by decide), Nat.or_zero]
      refine Ev.go 3 rfl ?_
      refine Ev.gf rfl lf_0_28_0 hX rfl ?_
      refine Ev.go 1 rfl ?_
      refine Ev.lln rfl h4 rfl (by omega) (by omega) ?_
      rw [hf i (by omega)]
      refine Ev.go 5 rfl ?_
      refine Ev.gf rfl lf_0_28_0 hX rfl ?_
      refine Ev.go 1 rfl ?_
      refine Ev.lln rfl h4 rfl (by omega) (by omega) ?_
      rw [hf i (by omega)]
      refine Ev.go 4 rfl ?_
      refine ih (n - 1) (by omega) (i + 1) _ _ _ (by omega) ?_ ?_ (by rw [nI_add])
      · show _ = lN (orf (fun x => if (may P S).testBit x then P x else 0) i ||| (if (may P S).testBit i then P i else 0))
        rw [if_pos c28]; exact fb_orL _ _
      · show _ = lN (twc (fun x => (may P S).testBit x) P i ||| (if (may P S).testBit i then orf (fun x => if (may P S).testBit x then P x else 0) i &&& P i else 0))
        rw [if_pos c28, fb_andL]; exact fb_orL _ _
  refine Ev.go 2 rfl ?_
  refine Ev.cv (E' := me_X_makers) rfl mk_X_makers lv_0_216_0 rfl hX rfl (e_X_makers d hX h4 hf hPl rfl hS) ?_
  refine Ev.go 7 rfl ?_
  exact L1 32 0 _ _ _ (by omega) rfl rfl rfl
theorem lN_div {a b : Nat} (ha : a < 2 ^ 63) (hb : b < 2 ^ 63) : lN a / lN b = lN (a / b) := by
  apply Int64.toInt_inj.1
  have h1 : lN a ≠ Int64.minValue := fun e => by
    have h2 := congrArg Int64.toInt e
    rw [pk_lT ha] at h2
    have h3 : Int64.minValue.toInt = -9223372036854775808 := by decide +kernel
    omega
  have h4 : a / b ≤ a := Nat.div_le_self a b
  rw [Int64.toInt_div_of_ne_left _ _ h1, pk_lT ha, pk_lT hb, pk_lT (by omega)]
  exact (Int.ofNat_tdiv a b).symm
theorem c32m : (4294967295 : Int64) = lN (2 ^ 32 - 1) := by decide +kernel
theorem c32d : (4294967296 : Int64) = lN (2 ^ 32) := by decide +kernel
theorem AG.hs4 {h h' : sn_H} (g : AG h h' 4 1) (j : JR h 4 32) (j' : JR h' 4 32) : sn_hs h' = sn_hs h := by
  refine sn_hs_eq (fun i => ?_)
  by_cases e : i = 4
  · subst e
    obtain ⟨f, k⟩ := j
    obtain ⟨f', k'⟩ := j'
    rw [k, k']; rfl
  · rw [g.2 i (by omega)]
theorem AG.hsJ {h h' : sn_H} {c : Nat} (g : AG h h' c 1) (j : JR h c 4096) (j' : JR h' c 4096) : sn_hs h' = sn_hs h := by
  refine sn_hs_eq (fun i => ?_)
  by_cases e : i = c
  · subst e
    obtain ⟨f, k⟩ := j
    obtain ⟨f', k'⟩ := j'
    rw [k, k']; rfl
  · rw [g.2 i (by omega)]
theorem BR.cvr {h h' : sn_H} {w : sn_Lw} {b : sn_Bk} {ad ru c : Nat} (q : BR h w b ad ru) (j : JR h c 4096) (g : AG h h' c 1) : BR h' w b ad ru := by
  have ho := q.outJ j
  have h3 := bln_3 b
  obtain ⟨fj, hj⟩ := j
  have ne : ∀ x, ad ≤ x → x < ad + bln b → h'[x]? = h[x]? := fun x h1 h2 => g.2 x (by omega)
  obtain ⟨⟨hB, fr, hF, hfr⟩, ⟨f1, hN, hn⟩, ⟨f2, hT, ht⟩, hU, hFo, hL, h0⟩ := q
  have hru : ru ≠ c := fun e => by rw [e, hj] at hF; cases hF
  refine ⟨⟨by rw [ne _ (by omega) (by omega)]; exact hB, fr, by rw [g.2 _ (by omega)]; exact hF, fun i hi => ?_⟩, ⟨f1, by rw [ne _ (by omega) (by omega)]; exact hN, hn⟩, ⟨f2, by rw [ne _ (by omega) (by omega)]; exact hT, ht⟩, fun e => ?_, fun e => ?_, fun e => ?_, h0⟩
  · obtain ⟨a, e1, e2⟩ := hfr i hi
    have ha : a ≠ c := fun e => by rw [e, hj] at e2; cases e2
    exact ⟨a, e1, by rw [g.2 _ (by omega)]; exact e2⟩
  · have hb7 : bln b = 7 := by unfold bln; rw [if_pos e]
    obtain ⟨⟨g3, k3⟩, ⟨g4, k4⟩, ⟨g5, k5⟩, ⟨g6, k6⟩⟩ := hU e
    exact ⟨⟨g3, by rw [ne _ (by omega) (by omega)]; exact k3⟩, ⟨g4, by rw [ne _ (by omega) (by omega)]; exact k4⟩, ⟨g5, by rw [ne _ (by omega) (by omega)]; exact k5⟩, ⟨g6, by rw [ne _ (by omega) (by omega)]; exact k6⟩⟩
  · have hb6 : bln b = 6 := by unfold bln; rw [if_neg (by omega), if_pos e]
    obtain ⟨⟨g3, k3⟩, ⟨g4, k4⟩, ⟨g5, k5⟩⟩ := hFo e
    exact ⟨⟨g3, by rw [ne _ (by omega) (by omega)]; exact k3⟩, ⟨g4, by rw [ne _ (by omega) (by omega)]; exact k4⟩, ⟨g5, by rw [ne _ (by omega) (by omega)]; exact k5⟩⟩
  · have hb5 : bln b = 5 := by unfold bln; rw [if_neg (by omega), if_neg (by omega), if_pos e]
    obtain ⟨⟨g3, k3, k⟩, ⟨g4, k4⟩⟩ := hL e
    exact ⟨⟨g3, by rw [ne _ (by omega) (by omega)]; exact k3, k⟩, ⟨g4, by rw [ne _ (by omega) (by omega)]; exact k4⟩⟩
theorem XO.cvc {h : sn_H} {μ : sn_S} {fl fb : Nat → Option Nat} {ad ru : Nat → Nat} {c : Nat} (o : XO h μ fl fb ad ru (.ref c)) : 27 ≤ c ∧ h[c]? = some (.inr (9, [.ref (c + 1)])) ∧ JR h (c + 1) 4096 := by
  rcases o.2.2.2.2.1 with e | ⟨c', e1, e2, e3, e4⟩
  · cases e
  · cases e1; exact ⟨e2, e3, e4⟩
theorem XO.cvr {h h' : sn_H} {μ : sn_S} {fl fb : Nat → Option Nat} {ad ru : Nat → Nat} {c : Nat} (o : XO h μ fl fb ad ru (.ref c)) (g : AG h h' (c + 1) 1) (j' : JR h' (c + 1) 4096) : XO h' μ fl fb ad ru (.ref c) := by
  obtain ⟨hc, hc9, hj⟩ := o.cvc
  obtain ⟨o1, o2, o3, o4, o5, o6, o7, o8⟩ := o
  refine ⟨by rw [g.2 _ (by omega)]; exact o1, by rw [g.2 _ (by omega)]; exact o2, by rw [g.2 _ (by omega)]; exact o3, ?_, Or.inr ⟨c, rfl, hc, by rw [g.2 _ (by omega)]; exact hc9, j'⟩, fun l hl => ?_, fun k hk => ?_, o8⟩
  · obtain ⟨f, k⟩ := o4
    exact ⟨f, by rw [g.2 _ (by omega)]; exact k⟩
  · obtain ⟨a, e1, e2⟩ := o6 l hl
    obtain ⟨fj, hj⟩ := hj
    have ha : a ≠ c + 1 := fun e => by rw [e, hj] at e2; cases e2
    exact ⟨a, e1, by rw [g.2 _ (by omega)]; exact e2⟩
  · obtain ⟨e1, e2, e3⟩ := o7 k hk
    exact ⟨e1, e2, e3.cvr hj g⟩
theorem XO.cvn {h h' : sn_H} {μ : sn_S} {fl fb : Nat → Option Nat} {ad ru : Nat → Nat} {cv : Value} (ws : WS μ) (o : XO h μ fl fb ad ru cv) {c : Nat} (g : GR h h') (k1 : h'[1]? = some (.inr (0, [.ref 2, .int (nI (sw μ).1), .ref 3, .int (nI (snb μ)), .ref 4, .ref c]))) (k2 : h'[2]? = h[2]?) (k3 : h'[3]? = h[3]?) (kc : CV h' (.ref c)) : XO h' μ fl fb ad ru (.ref c) := by
  have cc := o.c3
  obtain ⟨o1, o2, o3, o4, o5, o6, o7, o8⟩ := o
  refine ⟨k1, by rw [k2]; exact o2, by rw [k3]; exact o3, o4.gr g (by omega), kc, fun l hl => ?_, fun k hk => ?_, o8⟩
  · obtain ⟨a, e1, e2⟩ := o6 l hl
    exact ⟨a, e1, g.law cc e2⟩
  · obtain ⟨e1, e2, e3⟩ := o7 k hk
    exact ⟨e1, e2, e3.gr (ws.2.2 k hk) e2 cc g (fun j hj => ⟨rfl, rfl⟩)⟩
theorem surX_0 (P : Nat → Nat) : surX P 0 32 = 0 := by
  unfold surX
  apply Nat.eq_of_testBit_eq
  intro i
  rw [Nat.zero_testBit]
  cases h : (orf (fun x => if (0 : Nat).testBit x = true ∧ ¬ andn (P x &&& orf (fun x => if (0 : Nat).testBit x then P x else 0) 32) (twc (fun x => (0 : Nat).testBit x) P 32) = 0 then 2 ^ x else 0) 32).testBit i with
  | false => rfl
  | true =>
    obtain ⟨x, _, h2⟩ := (orf_tb _ _ _).mp h
    rw [if_neg (fun z => by rw [Nat.zero_testBit] at z; cases z.1), Nat.zero_testBit] at h2
    cases h2
theorem e_V_init (d : Nat) {h0 : sn_H} (h27 : 27 ≤ h0.length) : Sp (d + 1) me_V_init [.ref h0.length] (h0 ++ [.inr (9, [.null])]) none (h0 ++ [.inr (9, [.ref (h0.length + 1)]), sn_nac 1 4096]) := by
  refine Sp.of ok_V_init trivial rfl ?_
  refine Ev.go 1 rfl ?_
  refine Ev.oi rfl lo_9_5 lo_i lo_c rfl ?_
  refine Ev.go 2 rfl ?_
  refine Ev.na (t := 1) rfl rfl lac_1 rfl (by omega) ?_
  simp only [List.length_append, List.length_cons, List.length_nil, List.append_assoc, List.cons_append, List.nil_append]
  refine Ev.pf rfl lp_V_init_11_9 ap_get0 rfl rfl ?_
  rw [ap_set0]
  exact Ev.retv rfl
set_option maxHeartbeats 4000000 in
theorem p_X_made (d : Nat) {h : sn_H} {μ : sn_S} (q : XR h μ) (h27 : 27 ≤ h.length) (kv wv : Int32) : SpP (d + 4) me_X_made [.ref 1, .int kv, .int wv] h (PXl h (an_made μ kv wv, μ)) := by
  have q0 := q
  obtain ⟨ws, fl, fb, ad, ru, cw, o⟩ := q
  have hX := o.1
  have hJ := o.2.2.2.1
  refine SpP.of ok_X_made (fun r h' z => z.rc) rfl ?_
  by_cases hk : rg kv (snb μ)
  · obtain ⟨k, hk1, hk2, rfl⟩ := rg_ex hk
    obtain ⟨_, h27a, hR⟩ := o.2.2.2.2.2.2.1 k hk1
    have hb := ws.2.2 k hk1
    have hB := hR.1.1
    have h5 := hb.1
    have hci : sn_bk (bk (sbk μ k) + 3) := sn_bk_of hb.1
    refine EvP.s (fun _ _ K => Ev.go 2 rfl K) ?_
    refine EvP.s (fun _ _ K => Ev.cv (E' := me_X_find) rfl mk_X_find lv_0_102_0 rfl hX rfl (e_X_find_y (d + 3) ws o rfl hk1) K) ?_
    refine EvP.s (fun _ _ K => Ev.go 2 rfl K) ?_
    refine EvP.s (fun _ _ K => Ev.p rfl rfl trivial K) ?_
    refine EvP.s (fun _ _ K => Ev.go 1 rfl K) ?_
    refine EvP.br rfl rfl (fun c15 => ?_) (fun c15 => ?_)
    · refine EvP.s (fun _ _ K => Ev.go 1 rfl K) ?_
      refine ⟨_, _, Ev.retl rfl rfl, ?_⟩
      refine PXl.mk q0 (LW.refl _) (GB.refl _) ?_
      have h3 : (nI 3).toInt = 3 := by decide +kernel
      unfold an_made; rw [if_neg (fun z => z hk), if_pos (fun z => by rw [lt0] at c15; have := z.1; omega)]
    refine EvP.s (fun _ _ K => Ev.go 2 rfl K) ?_
    refine EvP.br rfl rfl (fun c20 => ?_) (fun c20 => ?_)
    · have h3 : (nI 3).toInt = 3 := by decide +kernel
      rw [lt0] at c15
      rw [fa_le] at c20
      have hrg : rg wv 4 := ⟨by omega, by omega⟩
      obtain ⟨w, hw, hw2, rfl⟩ := rg_ex hrg
      refine EvP.s (fun _ _ K => Ev.go 1 rfl K) ?_
      refine EvP.s (fun _ _ K => Ev.cs (E' := me_X_isPlainOrParted) rfl mk_X_isPlainOrParted ls_0_180 rfl rfl (e_X_isPlainOrParted (d + 3) hb hB) K) ?_
      refine EvP.zn rfl rfl (fun c31 => ?_) (fun c31 => ?_)
      · have hkd := ofd c31
        obtain ⟨r2, h2, sp2, er, hA2, f2, hS2, hf2⟩ := e_X_noteSpots d ws.1 hb hR h27a hX hJ
        subst er
        refine EvP.s (fun _ _ K => Ev.go 2 rfl K) ?_
        refine EvP.s (fun _ _ K => Ev.cv0 (E' := me_X_noteSpots) rfl mk_X_noteSpots lv_0_204_0 rfl hX rfl (sp2) K) ?_
        have o2 := o.sp hA2 ⟨_, hS2⟩
        have hX2 := o2.1
        have hcv2 := o2.2.2.2.2.1
        obtain ⟨_, _, hR2⟩ := o2.2.2.2.2.2.2.1 k hk1
        have hB := hR2.1.1
        have hX := hX2
        have hPl : ∀ y, (pls (sw μ) (sbk μ k)) y < 2 ^ 32 := fun y => pls_lt hb y
        have hSl := fil_lt hb
        have hp32 := pcnt_le hSl
        have h27b : 27 ≤ h2.length := by rw [hA2.1]; exact h27
        refine EvP.s (fun _ _ K => Ev.go 1 rfl K) ?_
        refine EvP.s (fun _ _ K => Ev.cv (E' := vt_filledPlaces (bk (sbk μ k) + 3)) rfl (mkb_filledPlaces hci) (lvb_0_119 hci) rfl hB rfl (v_filledPlaces (d + 3) hb hB hR2.2.1) K) ?_
        refine EvP.s (fun _ _ K => Ev.go 3 rfl K) ?_
        refine EvP.ilt rfl rfl rfl (by omega) (by omega) (fun c51 => ?_) (fun c51 => ?_)
        · refine EvP.s (fun _ _ K => Ev.go 1 rfl K) ?_
          refine EvP.s (fun _ _ K => Ev.cs (E' := me_JL_bitCount) rfl mk_JL_bitCount ls_0_123 rfl rfl (e_JL_bitCount (d + 3) _ rfl hSl) K) ?_
          refine EvP.s (fun _ _ K => Ev.go 1 rfl K) ?_
          refine EvP.ile rfl rfl rfl (by omega) (by omega) (fun c82 => ?_) (fun c82 => ?_)
          · have K107 : ∀ (h3 : sn_H) (c : Nat), XO h3 μ fl fb ad ru (.ref c) → h3[4]? = some (.inl (1, 32, .inr (.inl f2))) → LW h h3 → h3.length ≤ h.length + 2 → sn_hs h3 ≤ sn_hs h + 4097 → EvP o0 (d + 4) me_X_made 107 [.ref 1, .int (nI k), .int (nI w), .ref (ad k), .long (lN (fil (sbk μ k))), .retAddr 0, .retAddr 0, .retAddr 0] [] h3 (PXl h (an_made μ (nI k) (nI w), μ)) := by
              intro h3 c o3 h43 lw3 len3 hs3
              have hX3 := o3.1
              obtain ⟨hc27, hC3, hJ3⟩ := o3.cvc
              obtain ⟨r4, h4, sp4, er4, hA4, hJ4⟩ := e_V_leastSet (d + 1) (rfl : lN (fil (sbk μ k)) = _) hSl c82 hc27 hC3 hJ3 h43 hf2 (fun y _ => hPl y)
              subst er4
              have o4 := o3.cvr hA4 hJ4
              have q4 : XR h4 μ := ⟨ws, _, _, _, _, _, o4⟩
              have lw4 : LW h h4 := fun i hi hl => (hA4.2 i (by omega)).trans (lw3 i hi hl)
              have gb4 : GB h h4 := ⟨by rw [hA4.1]; omega, by rw [hA4.hsJ hJ3 hJ4]; omega⟩
              have hml : mdv (pls (sw μ) (sbk μ k)) (fil (sbk μ k)) ≤ 33 * 2 ^ 32 := (dp_ok _ _ 32 (Nat.le_refl _) _).1
              refine EvP.s (fun _ _ K => Ev.go 1 rfl K) ?_
              refine EvP.s (fun _ _ K => Ev.gf rfl lf_0_32_0 hX3 rfl K) ?_
              refine EvP.s (fun _ _ K => Ev.go 1 rfl K) ?_
              refine EvP.s (fun _ _ K => Ev.gf rfl lf_0_28_0 hX3 rfl K) ?_
              refine EvP.s (fun _ _ K => Ev.go 1 rfl K) ?_
              refine EvP.s (fun _ _ K => Ev.cv (E' := me_V_leastSet) rfl mk_V_leastSet lv_0_224_9 rfl hC3 rfl (sp4) K) ?_
              refine EvP.s (fun _ _ K => Ev.go 3 rfl K) ?_
              refine EvP.lne rfl rfl (b := 33 * 2 ^ 32) rfl rfl (by omega) (by omega) (fun c127 => ?_) (fun c127 => ?_)
              · refine EvP.s (fun _ _ K => Ev.go 1 rfl K) ?_
                refine EvP.zne rfl rfl (by omega) (fun c136 => ?_) (fun c136 => ?_)
                · refine EvP.s (fun _ _ K => Ev.go 3 rfl K) ?_
                  refine ⟨_, _, Ev.retl rfl rfl, ?_⟩
                  refine PXl.mk q4 lw4 gb4 ?_
                  unfold an_made; rw [tn_nI hk2, tn_nI hw2, if_neg (fun z => z hk), if_neg (fun z => z hrg), if_neg (fun z => z hkd)]
                  unfold mda
                  rw [if_pos c51, if_neg (by omega), if_neg (fun z => z ((can_iff hSl).mpr c127)), if_neg (by omega)]
                  rw [c32m, fb_maskL]
                refine EvP.s (fun _ _ K => Ev.go 2 rfl K) ?_
                refine EvP.s (fun _ _ K => Ev.p rfl rfl (by decide +kernel) K) ?_
                refine EvP.s (fun _ _ K => Ev.go 1 rfl K) ?_
                refine ⟨_, _, Ev.retl rfl rfl, ?_⟩
                refine PXl.mk q4 lw4 gb4 ?_
                unfold an_made; rw [tn_nI hk2, tn_nI hw2, if_neg (fun z => z hk), if_neg (fun z => z hrg), if_neg (fun z => z hkd)]
                unfold mda
                rw [if_pos c51, if_neg (by omega), if_neg (fun z => z ((can_iff hSl).mpr c127)), if_pos c136]
                rw [c32d, lN_div (by omega) (by omega)]
              refine EvP.s (fun _ _ K => Ev.go 1 rfl K) ?_
              refine ⟨_, _, Ev.retl rfl rfl, ?_⟩
              refine PXl.mk q4 lw4 gb4 ?_
              unfold an_made; rw [tn_nI hk2, tn_nI hw2, if_neg (fun z => z hk), if_neg (fun z => z hrg), if_neg (fun z => z hkd)]
              unfold mda
              rw [if_pos c51, if_neg (by omega), if_pos (fun z => (can_iff hSl).mp z c127)]
            rcases hcv2 with e | ⟨c, e1, _, _, _⟩
            · subst e
              refine EvP.s (fun _ _ K => Ev.go 1 rfl K) ?_
              refine EvP.s (fun _ _ K => Ev.gf rfl lf_0_32_0 hX2 rfl K) ?_
              refine EvP.s (fun _ _ K => Ev.p rfl rfl trivial K) ?_
              refine EvP.s (fun _ _ K => Ev.go 1 rfl K) ?_
              refine EvP.s (fun _ _ K => Ev.nw rfl lc_0_221 K) ?_
              refine EvP.s (fun _ _ K => Ev.go 1 rfl K) ?_
              skip
              refine EvP.s (fun _ _ K => Ev.ci (E' := me_V_init) rfl mk_V_init li_0_223 rfl (by omega) rfl (e_V_init (d + 2) h27b) K) ?_
              have hX3 : (h2 ++ [Sum.inr (9, [Value.ref (h2.length + 1)]), sn_nac 1 4096])[1]? = _ := (List.getElem?_append_left (by omega)).trans hX2
              refine EvP.s (fun _ _ K => Ev.pf rfl lp_X_made_32_0 hX3 rfl rfl K) ?_
              refine K107 _ h2.length (o2.cvn ws (fun i hi hl => by rw [List.getElem?_set_ne (by omega), List.getElem?_append_left hl]) (List.getElem?_set_self (by simp)) (by rw [List.getElem?_set_ne (by omega), List.getElem?_append_left (by omega)]) (by rw [List.getElem?_set_ne (by omega), List.getElem?_append_left (by omega)]) (Or.inr ⟨_, rfl, h27b, by rw [List.getElem?_set_ne (by omega)]; exact ap_get0, ⟨_, by rw [List.getElem?_set_ne (by omega), List.getElem?_append_right (by omega), show h2.length + 1 - h2.length = 1 by omega]; rfl⟩⟩)) (by rw [List.getElem?_set_ne (by omega), List.getElem?_append_left (by omega)]; exact hS2) (fun i hi hl => by rw [List.getElem?_set_ne (by omega), List.getElem?_append_left (by rw [hA2.1]; exact hl)]; exact hA2.lw4 i hi hl) (by simp; have := hA2.1; omega) ?_
              refine Nat.le_trans (Nat.le_of_eq (sn_hs_set hX3 (by rfl))) ?_
              rw [sn_hs_appL, hA2.hs4 hJ ⟨_, hS2⟩]
              exact Nat.le_refl _
            · subst e1
              refine EvP.s (fun _ _ K => Ev.go 1 rfl K) ?_
              refine EvP.s (fun _ _ K => Ev.gf rfl lf_0_32_0 hX2 rfl K) ?_
              refine EvP.s (fun _ _ K => Ev.p rfl rfl trivial K) ?_
              exact K107 h2 c o2 hS2 hA2.lw4 (by have := hA2.1; omega) (by rw [hA2.hs4 hJ ⟨_, hS2⟩]; omega)
          refine EvP.s (fun _ _ K => Ev.go 1 rfl K) ?_
          refine ⟨_, _, Ev.retl rfl rfl, ?_⟩
          refine PXl.mk ⟨ws, _, _, _, _, _, o2⟩ hA2.lw4 (hA2.gb4 hJ ⟨_, hS2⟩) ?_
          unfold an_made; rw [tn_nI hk2, tn_nI hw2, if_neg (fun z => z hk), if_neg (fun z => z hrg), if_neg (fun z => z hkd)]
          unfold mda
          rw [if_pos c51, if_pos (by omega)]
        refine EvP.s (fun _ _ K => Ev.go 2 rfl K) ?_
        refine EvP.ine rfl rfl rfl (by omega) (by omega) (fun c56 => ?_) (fun c56 => ?_)
        · refine EvP.s (fun _ _ K => Ev.go 2 rfl K) ?_
          refine EvP.s (fun _ _ K => Ev.cv (E' := me_X_makers) rfl mk_X_makers lv_0_216_0 rfl hX rfl (e_X_makers (d + 3) hX2 hS2 hf2 hPl rfl hSl) K) ?_
          refine ⟨_, _, Ev.retl rfl rfl, ?_⟩
          refine PXl.mk ⟨ws, _, _, _, _, _, o2⟩ hA2.lw4 (hA2.gb4 hJ ⟨_, hS2⟩) ?_
          unfold an_made; rw [tn_nI hk2, tn_nI hw2, if_neg (fun z => z hk), if_neg (fun z => z hrg), if_neg (fun z => z hkd)]
          unfold mda
          rw [if_neg (by omega)]
          by_cases hcan : uno (pls (sw μ) (sbk μ k)) (fits (pls (sw μ) (sbk μ k)) (fil (sbk μ k)) 32) (-1) 32 = (fil (sbk μ k))
          · rw [if_neg (fun z => z hcan), if_neg c56, show may (pls (sw μ) (sbk μ k)) (fil (sbk μ k)) = _ from if_pos hcan]
          · rw [if_pos hcan, show may (pls (sw μ) (sbk μ k)) (fil (sbk μ k)) = _ from if_neg hcan]
            rfl
        refine EvP.s (fun _ _ K => Ev.go 2 rfl K) ?_
        refine EvP.s (fun _ _ K => Ev.cv (E' := me_X_sureMakers) rfl mk_X_sureMakers lv_0_212_0 rfl hX rfl (e_X_sureMakers (d + 2) hX2 hS2 hf2 hPl rfl hSl) K) ?_
        refine EvP.s (fun _ _ K => Ev.go 1 rfl K) ?_
        refine ⟨_, _, Ev.retl rfl rfl, ?_⟩
        refine PXl.mk ⟨ws, _, _, _, _, _, o2⟩ hA2.lw4 (hA2.gb4 hJ ⟨_, hS2⟩) ?_
        unfold an_made; rw [tn_nI hk2, tn_nI hw2, if_neg (fun z => z hk), if_neg (fun z => z hrg), if_neg (fun z => z hkd)]
        unfold mda
        rw [if_neg (by omega)]
        by_cases hcan : uno (pls (sw μ) (sbk μ k)) (fits (pls (sw μ) (sbk μ k)) (fil (sbk μ k)) 32) (-1) 32 = (fil (sbk μ k))
        · rw [if_neg (fun z => z hcan), if_pos c56, show may (pls (sw μ) (sbk μ k)) (fil (sbk μ k)) = _ from if_pos hcan, sur_eq hcan]
        · rw [if_pos hcan, show may (pls (sw μ) (sbk μ k)) (fil (sbk μ k)) = _ from if_neg hcan, surX_0]
          rfl
      refine EvP.s (fun _ _ K => Ev.go 1 rfl K) ?_
      refine ⟨_, _, Ev.retl rfl rfl, ?_⟩
      refine PXl.mk q0 (LW.refl _) (GB.refl _) ?_
      unfold an_made; rw [tn_nI hk2, tn_nI hw2, if_neg (fun z => z hk), if_neg (fun z => z hrg), if_pos (ofn c31)]
    refine EvP.s (fun _ _ K => Ev.go 1 rfl K) ?_
    refine ⟨_, _, Ev.retl rfl rfl, ?_⟩
    refine PXl.mk q0 (LW.refl _) (GB.refl _) ?_
    have h3 : (nI 3).toInt = 3 := by decide +kernel
    unfold an_made; rw [if_neg (fun z => z hk), if_pos (fun z => by rw [fa_le] at c20; have := z.2; omega)]
  · refine EvP.s (fun _ _ K => Ev.go 2 rfl K) ?_
    refine EvP.s (fun _ _ K => Ev.cv (E' := me_X_find) rfl mk_X_find lv_0_102_0 rfl hX rfl (e_X_find_n (d + 3) q0 hk) K) ?_
    refine EvP.s (fun _ _ K => Ev.go 2 rfl K) ?_
    refine EvP.s (fun _ _ K => Ev.p rfl rfl trivial K) ?_
    refine EvP.s (fun _ _ K => Ev.go 1 rfl K) ?_
    refine ⟨_, _, Ev.retl rfl rfl, ?_⟩
    refine PXl.mk q0 (LW.refl _) (GB.refl _) ?_
    unfold an_made; rw [if_pos hk]
