/-! THE CLASS: book -/
theorem ctf_mono (f : Nat → Bool) (i : Nat) : ∀ n, ctf f i ≤ ctf f (i + n)
  | 0 => Nat.le_refl _
  | n + 1 => Nat.le_trans (ctf_mono f i n) (Nat.le_add_right _ _)
theorem ctf_lt {f : Nat → Bool} {i n : Nat} (h : f i = true) (hi : i < n) : ctf f i < ctf f n := by
  have h1 := ctf_mono f (i + 1) (n - (i + 1))
  rw [show i + 1 + (n - (i + 1)) = n by omega] at h1
  have h2 : ctf f (i + 1) = ctf f i + 1 := by rw [ctf, h]; rfl
  omega
theorem nth_ctf : ∀ b, b < 256 → ∀ i, i < 8 → b.testBit i = true → nth b (ctf (fun i => b.testBit i) i) = i := by decide +kernel
theorem shI_dec : ∀ n, n < 9 → nI 1 <<< (nI n &&& 31) = nI (2 ^ n) := by decide +kernel
theorem fitb_0 (kd : Nat) : fitb kd 0 = false := by
  unfold fitb
  split
  · rfl
  · split <;> rfl
theorem e_X_areLawsFor (d : Nat) {h : sn_H} {nl nb : Nat} {cv : Value} (h1 : h[1]? = some (.inr (0, [.ref 2, .int (nI nl), .ref 3, .int (nI nb), .ref 4, cv]))) {μ : sn_S} (hl : (sw μ).1 = nl) (h8 : nl ≤ 8) {k : Nat} {kv : Int32} (ek : kv = nI k) (hk : k < 6) (bv : Int32) : Sp (d + 1) me_X_areLawsFor [.ref 1, .int kv, .int bv] h (some (.int (b2i (fitb k (manyl μ bv))))) h := by
  subst ek
  have hp8 : 2 ^ nl ≤ 2 ^ 8 := Nat.pow_le_pow_right (by omega) h8
  refine Sp.of ok_X_areLawsFor (b2i_rc _) rfl ?_
  refine Ev.go 1 rfl ?_
  refine Ev.br rfl rfl (fun c1 => ?_) (fun c1 => ?_)
  · refine Ev.go 1 rfl ?_
    exact Ev.reti rfl (by
        rw [show manyl μ bv = 0 from if_neg (fun z => by rw [hl] at z; rw [lt0] at c1; have := z.1; omega), fitb_0]
        rfl)
  refine Ev.go 3 rfl ?_
  refine Ev.gf rfl lf_0_15_0 h1 rfl ?_
  refine Ev.go 1 rfl ?_
  rw [shI_dec nl (by omega)]
  refine Ev.br rfl rfl (fun c11 => ?_) (fun c11 => ?_)
  · rw [lt0] at c1
    rw [ltn _ (by omega)] at c11
    have hr : rg bv (2 ^ (sw μ).1) := by rw [hl]; exact ⟨by omega, by omega⟩
    obtain ⟨b, hb1, hb2, rfl⟩ := rg_ex hr
    rw [hl] at hb1
    have hml : manyl μ (nI b) = pcnt b := by unfold manyl; rw [if_pos hr, tn_nI hb2]
    rw [hml]
    have hpc := pcnt_le (n := b) (k := 8) (by omega)
    refine Ev.go 1 rfl ?_
    refine Ev.cs (E' := me_JI_bitCount) rfl mk_JI_bitCount ls_0_263 rfl rfl (e_JI_bitCount d _ rfl (by omega)) ?_
    refine Ev.go 3 rfl ?_
    refine Ev.ine rfl rfl rfl (by omega) (by omega) (fun c23 => ?_) (fun c23 => ?_)
    · refine Ev.go 2 rfl ?_
      refine Ev.ine rfl rfl rfl (by omega) (by omega) (fun c39 => ?_) (fun c39 => ?_)
      · refine Ev.go 2 rfl ?_
        refine Ev.ilt rfl rfl rfl (by omega) (by omega) (fun c55 => ?_) (fun c55 => ?_)
        · refine Ev.go 1 rfl ?_
          exact Ev.reti rfl (by
              unfold fitb
              rw [if_neg c23, if_neg c39]
              first | exact b2i_dt (by omega) | exact b2i_df (by omega))
        refine Ev.go 2 rfl ?_
        refine Ev.igt rfl rfl rfl (by omega) (by omega) (fun c60 => ?_) (fun c60 => ?_)
        · refine Ev.go 1 rfl ?_
          exact Ev.reti rfl (by
              unfold fitb
              rw [if_neg c23, if_neg c39]
              first | exact b2i_dt (by omega) | exact b2i_df (by omega))
        refine Ev.go 2 rfl ?_
        exact Ev.reti rfl (by
            unfold fitb
            rw [if_neg c23, if_neg c39]
            first | exact b2i_dt (by omega) | exact b2i_df (by omega))
      refine Ev.go 2 rfl ?_
      refine Ev.ine rfl rfl rfl (by omega) (by omega) (fun c44 => ?_) (fun c44 => ?_)
      · refine Ev.go 1 rfl ?_
        exact Ev.reti rfl (by
            unfold fitb
            rw [if_neg c23, if_pos c39]
            first | exact b2i_dt (by omega) | exact b2i_df (by omega))
      refine Ev.go 2 rfl ?_
      exact Ev.reti rfl (by
          unfold fitb
          rw [if_neg c23, if_pos c39]
          first | exact b2i_dt (by omega) | exact b2i_df (by omega))
    refine Ev.go 2 rfl ?_
    refine Ev.ine rfl rfl rfl (by omega) (by omega) (fun c28 => ?_) (fun c28 => ?_)
    · refine Ev.go 1 rfl ?_
      exact Ev.reti rfl (by
          unfold fitb
          rw [if_pos c23]
          first | exact b2i_dt (by omega) | exact b2i_df (by omega))
    refine Ev.go 2 rfl ?_
    exact Ev.reti rfl (by
        unfold fitb
        rw [if_pos c23]
        first | exact b2i_dt (by omega) | exact b2i_df (by omega))
  refine Ev.go 1 rfl ?_
  exact Ev.reti rfl (by
      rw [show manyl μ bv = 0 from if_neg (fun z => by rw [hl] at z; rw [ltn _ (by omega)] at c11; have := z.2; omega), fitb_0]
      rfl)
def PL (h : sn_H) (w : sn_Lw) (l : Nat) (r : Option Value) (h' : sn_H) : Prop := r = some (.ref h.length) ∧ ∃ f : Nat → Option Nat, h' = h ++ [.inl (3, pcnt l, .inr (.inr (.inr (.inr f))))] ∧ RU h' w l h.length
theorem PL.rc {h : sn_H} {w : sn_Lw} {l : Nat} {r : Option Value} {h' : sn_H} (q : PL h w l r h') : sn_rc (some (.array (.object "SureNoes$Law"))) r := by
  obtain ⟨rfl, _⟩ := q; trivial
theorem e_X_lawsOf (d : Nat) {h : sn_H} {μ : sn_S} (ws : WS μ) {fl fb : Nat → Option Nat} {ad ru : Nat → Nat} {cw : Value} (o : XO h μ fl fb ad ru cw) {l : Nat} {lv : Int32} (e : lv = nI l) (hl : l < 2 ^ (sw μ).1) : SpP (d + 1) me_X_lawsOf [.ref 1, .int lv] h (PL h (sw μ) l) := by
  subst e
  have h8 := ws.1.1
  have hp8 : 2 ^ (sw μ).1 ≤ 2 ^ 8 := Nat.pow_le_pow_right (by omega) h8
  have hpc := pcnt_le (n := l) (k := 8) (by omega)
  refine SpP.of ok_X_lawsOf (fun r h' z => z.rc) rfl ?_
  have L : ∀ (n : Nat) (f : Nat → Option Nat) (i : Nat) (nv : Int32) (iv : Int32), (i + n = (sw μ).1) → (∀ j, j < ctf (fun i => l.testBit i) i → ∃ a, f j = some a ∧ h[a]? = some (.inr (2, [.int (nI ((sw μ).2.1 (nth l j))), .int (nI ((sw μ).2.2 (nth l j)))]))) → (nv = nI (ctf (fun i => l.testBit i) i)) → (iv = nI i) → EvP o0 (d + 1) me_X_lawsOf 13 [.ref 1, .int (nI l), .ref h.length, .int nv, .int iv] [] (h ++ [(Sum.inl (3, pcnt l, Sum.inr (Sum.inr (Sum.inr (Sum.inr f)))))]) (PL h (sw μ) l) := by
    intro n
    induction n using Nat.strongRecOn with
    | _ n ih =>
      intro f i nv iv k1 hf e2 e3
      subst e2
      subst e3
      have hX : (h ++ [(Sum.inl (3, pcnt l, Sum.inr (Sum.inr (Sum.inr (Sum.inr f)))))])[1]? = some (.inr (0, [.ref 2, .int (nI (sw μ).1), .ref 3, .int (nI (snb μ)), .ref 4, cw])) := ap_old o.1
      have hT : (h ++ [(Sum.inl (3, pcnt l, Sum.inr (Sum.inr (Sum.inr (Sum.inr f)))))])[2]? = some (.inl (3, 8, .inr (.inr (.inr (.inr fl))))) := ap_old o.2.1
      have hN : (h ++ [(Sum.inl (3, pcnt l, Sum.inr (Sum.inr (Sum.inr (Sum.inr f)))))])[h.length]? = some (Sum.inl (3, pcnt l, Sum.inr (Sum.inr (Sum.inr (Sum.inr f))))) := ap_get0
      have hci := ctf_le (fun i => l.testBit i) i
      refine EvP.s (fun _ _ K => Ev.go 2 rfl K) ?_
      refine EvP.s (fun _ _ K => Ev.gf rfl lf_0_15_0 hX rfl K) ?_
      refine EvP.ige rfl rfl rfl (by omega) (by omega) (fun c19 => ?_) (fun c19 => ?_)
      · refine EvP.s (fun _ _ K => Ev.go 1 rfl K) ?_
        refine ⟨_, _, Ev.reta rfl rfl, ?_⟩
        have ei : i = (sw μ).1 := by omega
        subst ei
        rw [← pcnt_ct hl] at hf
        refine ⟨rfl, f, rfl, f, ap_get0, fun j hj => ?_⟩
        obtain ⟨a, x1, x2⟩ := hf j hj
        exact ⟨a, x1, ap_old x2⟩
      refine EvP.s (fun _ _ K => Ev.go 3 rfl K) ?_
      refine EvP.s (fun _ _ K => Ev.cs (E' := me_X_has) rfl mk_X_has ls_0_57 rfl rfl (e_X_has d _ (nI_l (by omega)) rfl (by omega) (by omega)) K) ?_
      refine EvP.zb rfl rfl (fun c29 => ?_) (fun c29 => ?_)
      · refine EvP.s (fun _ _ K => Ev.go 2 rfl K) ?_
        exact ih (n - 1) (by omega) f (i + 1) _ _ (by omega) (fun j hj => hf j (by rw [show ctf (fun i => l.testBit i) (i + 1) = ctf (fun i => l.testBit i) i by rw [ctf, c29]; rfl] at hj; exact hj)) (by rw [show ctf (fun i => l.testBit i) (i + 1) = ctf (fun i => l.testBit i) i by rw [ctf, c29]; rfl]) (by rw [nI_add])
      refine EvP.s (fun _ _ K => Ev.go 2 rfl K) ?_
      refine EvP.s (fun _ _ K => Ev.ln rfl hN rfl K) ?_
      refine EvP.ige rfl rfl rfl (by omega) (by omega) (fun c35 => ?_) (fun c35 => ?_)
      · refine EvP.s (fun _ _ K => Ev.go 2 rfl K) ?_
        have hlt := ctf_lt (f := fun i => l.testBit i) c29 (show i < (sw μ).1 by omega)
        rw [← pcnt_ct hl] at hlt
        exact absurd hlt (by omega)
      obtain ⟨a, ha, ha2⟩ := o.2.2.2.2.2.1 i (by omega)
      have hA : (h ++ [(Sum.inl (3, pcnt l, Sum.inr (Sum.inr (Sum.inr (Sum.inr f)))))])[a]? = some (.inr (2, [.int (nI ((sw μ).2.1 i)), .int (nI ((sw μ).2.2 i))])) := ap_old ha2
      refine EvP.s (fun _ _ K => Ev.go 3 rfl K) ?_
      refine EvP.s (fun _ _ K => Ev.gf rfl lf_0_11_0 hX rfl K) ?_
      refine EvP.s (fun _ _ K => Ev.go 1 rfl K) ?_
      refine EvP.s (fun _ _ K => Ev.aln rfl (Or.inl rfl) hT rfl (by omega) (by omega) ha K) ?_
      refine EvP.s (fun _ _ K => Ev.asn rfl lg_2 (by decide) hN hA rfl (by omega) (by omega) K) ?_
      rw [ap_set0]
      refine EvP.s (fun _ _ K => Ev.go 3 rfl K) ?_
      have hs : ctf (fun i => l.testBit i) (i + 1) = ctf (fun i => l.testBit i) i + 1 := by rw [ctf, c29]; rfl
      exact ih (n - 1) (by omega) _ (i + 1) _ _ (by omega) (fun j hj => by
        by_cases e : j = ctf (fun i => l.testBit i) i
        · subst e
          refine ⟨a, va_up_self _ _ _, ?_⟩
          rw [nth_ctf l (by omega) i (by omega) c29]
          exact ha2
        · obtain ⟨a2, x1, x2⟩ := hf j (by omega)
          exact ⟨a2, (va_up_ne _ _ e).trans x1, x2⟩) (by rw [hs, nI_add]) (by rw [nI_add])
  refine EvP.s (fun _ _ K => Ev.go 1 rfl K) ?_
  refine EvP.s (fun _ _ K => Ev.cs (E' := me_JI_bitCount) rfl mk_JI_bitCount ls_0_263 rfl rfl (e_JI_bitCount d _ rfl (by omega)) K) ?_
  refine EvP.s (fun _ _ K => Ev.nq (t := 3) rfl (Or.inl rfl) lq_0_9 rfl (by omega) K) ?_
  refine EvP.s (fun _ _ K => Ev.go 5 rfl K) ?_
  exact L (sw μ).1 _ 0 _ _ (by omega) (fun j hj => absurd hj (Nat.not_lt_zero j)) rfl rfl
def kpt (h : sn_H) (nl nb : Nat) (cv : Value) (fb : Nat → Option Nat) (a : Nat) : sn_H := (h.set 3 (Sum.inl (4, 8, Sum.inr (Sum.inr (Sum.inr (Sum.inr (va_up fb nb (some a)))))))).set 1 (Sum.inr (0, [Value.ref 2, Value.int (nI nl), Value.ref 3, Value.int (nI (nb + 1)), Value.ref 4, cv]))
theorem e_X_keep (d : Nat) {h : sn_H} {nl nb : Nat} {cv : Value} (h1 : h[1]? = some (.inr (0, [.ref 2, .int (nI nl), .ref 3, .int (nI nb), .ref 4, cv]))) {fb : Nat → Option Nat} (h3 : h[3]? = some (.inl (4, 8, .inr (.inr (.inr (.inr fb)))))) {a ci : Nat} {fs : List Value} (hci : sn_bk ci) (ha : h[a]? = some (.inr (ci, fs))) (hn : nb < 8) : Sp d me_X_keep [.ref 1, .ref a] h (some (.int (nI nb))) (kpt h nl nb cv fb a) := by
  refine Sp.of ok_X_keep trivial rfl ?_
  refine Ev.go 1 rfl ?_
  refine Ev.gf rfl lf_0_25_0 h1 rfl ?_
  refine Ev.go 1 rfl ?_
  refine Ev.ilt rfl rfl rfl (by omega) (by omega) (fun c6 => ?_) (fun c6 => ?_)
  · refine Ev.go 1 rfl ?_
    refine Ev.gf rfl lf_0_21_0 h1 rfl ?_
    refine Ev.go 1 rfl ?_
    refine Ev.gf rfl lf_0_25_0 h1 rfl ?_
    refine Ev.go 1 rfl ?_
    refine Ev.asn rfl (lgb (hci)) (sn_bk_lt (hci)) h3 ha rfl (by omega) (by omega) ?_
    have h1 : (h.set 3 (Sum.inl (4, 8, Sum.inr (Sum.inr (Sum.inr (Sum.inr (va_up fb nb (some a))))))))[1]? = some (.inr (0, [.ref 2, .int (nI nl), .ref 3, .int (nI nb), .ref 4, cv])) := by rw [List.getElem?_set_ne (by omega)]; exact h1
    refine Ev.go 2 rfl ?_
    refine Ev.gf rfl lf_0_25_0 h1 rfl ?_
    refine Ev.go 2 rfl ?_
    rw [nI_add]
    refine Ev.pf rfl lp_X_keep_25_0 h1 rfl rfl ?_
    have h1 : (kpt h nl nb cv fb a)[1]? = some (Sum.inr (0, [Value.ref 2, Value.int (nI nl), Value.ref 3, Value.int (nI (nb + 1)), Value.ref 4, cv])) := List.getElem?_set_self (cell_lt h1)
    show Ev _ _ _ _ _ _ (kpt h nl nb cv fb a) _ _
    refine Ev.go 1 rfl ?_
    refine Ev.gf rfl lf_0_25_0 h1 rfl ?_
    refine Ev.go 2 rfl ?_
    exact Ev.reti rfl (by rw [← nI_add]; simp)
  refine Ev.go 1 rfl ?_
  exact absurd c6 (by omega)
theorem kpt_ne (h : sn_H) (nl nb : Nat) (cv : Value) (fb : Nat → Option Nat) (a : Nat) {i : Nat} (h1 : i ≠ 1) (h3 : i ≠ 3) : (kpt h nl nb cv fb a)[i]? = h[i]? := by
  unfold kpt
  rw [List.getElem?_set_ne (by omega), List.getElem?_set_ne (by omega)]
theorem XO.ap {h L : sn_H} {μ : sn_S} {fl fb : Nat → Option Nat} {ad ru : Nat → Nat} {cv : Value} (o : XO h μ fl fb ad ru cv) (ws : WS μ) : XO (h ++ L) μ fl fb ad ru cv := by
  have c := o.c3
  have g : GR h (h ++ L) := fun i _ hl => List.getElem?_append_left hl
  obtain ⟨o1, o2, o3, o4, o5, o6, o7, o8⟩ := o
  refine ⟨ap_old o1, ap_old o2, ap_old o3, o4.gr g (by omega), o5.gr g, fun l hl => ?_, fun k hk => ?_, o8⟩
  · obtain ⟨a, e1, e2⟩ := o6 l hl
    exact ⟨a, e1, ap_old e2⟩
  · obtain ⟨e1, e2, e3⟩ := o7 k hk
    exact ⟨e1, e2, e3.gr (ws.2.2 k hk) e2 c g (fun _ _ => ⟨rfl, rfl⟩)⟩
/-- a new book, laid behind the old cells, is kept -/
theorem XO.kept {h h1 : sn_H} {μ : sn_S} {fl fb : Nat → Option Nat} {ad ru : Nat → Nat} {cv : Value} (ws : WS μ) (o : XO h μ fl fb ad ru cv) (h27 : 27 ≤ h.length) (hap : ∀ i, i < h.length → h1[i]? = h[i]?) {b : sn_Bk} {ru' : Nat} (hb : WB (sw μ).1 b) (q : BR h1 (sw μ) b h.length ru') : XO (kpt h1 (sw μ).1 (snb μ) cv fb h.length) (addB μ b) fl (va_up fb (snb μ) (some h.length)) (va_up ad (snb μ) h.length) (va_up ru (snb μ) ru') cv := by
  have e1 : h1[1]? = _ := (hap 1 (cell_lt o.1)).trans o.1
  have e2 : h1[2]? = _ := (hap 2 (cell_lt o.2.1)).trans o.2.1
  have e3 : h1[3]? = _ := (hap 3 (cell_lt o.2.2.1)).trans o.2.2.1
  refine o.moreB ws h27 (fun i hi hl => by rw [kpt_ne _ _ _ _ _ _ (by omega) (by omega)]; exact hap i hl) ?_ ?_ ?_ (fun j hj => (o.2.2.2.2.2.2.1 j hj).2.2.len) ?_
  · unfold kpt
    exact List.getElem?_set_self (by rw [List.length_set]; exact cell_lt e1)
  · rw [kpt_ne _ _ _ _ _ _ (by omega) (by omega), e2, o.2.1]
  · unfold kpt
    rw [List.getElem?_set_ne (by omega)]
    exact List.getElem?_set_self (cell_lt e3)
  · exact q.gr hb h27 ⟨⟨_, e1⟩, ⟨_, e2⟩, ⟨_, e3⟩⟩ (fun i hi hl => kpt_ne _ _ _ _ _ _ (by omega) (by omega)) (fun _ _ => ⟨rfl, rfl⟩)
theorem kpt_lw {h h1 : sn_H} (hap : ∀ i, i < h.length → h1[i]? = h[i]?) (nl nb : Nat) (cv : Value) (fb : Nat → Option Nat) (a : Nat) : LW h (kpt h1 nl nb cv fb a) := fun i hi hl => by
  rw [kpt_ne _ _ _ _ _ _ (by omega) (by omega)]; exact hap i hl
theorem kpt_hs {h : sn_H} {nl nb : Nat} {cv : Value} {fb fb' : Nat → Option Nat} {a : Nat} {v1 v2 v3 v4 v5 v6 : Value} (e1 : h[1]? = some (.inr (0, [v1, v2, v3, v4, v5, v6]))) (e3 : h[3]? = some (.inl (4, 8, .inr (.inr (.inr (.inr fb')))))) : sn_hs (kpt h nl nb cv fb a) = sn_hs h := by
  unfold kpt
  have k1 : (h.set 3 (.inl (4, 8, .inr (.inr (.inr (.inr (va_up fb nb (some a))))))))[1]? = some (.inr (0, [v1, v2, v3, v4, v5, v6])) := by rw [List.getElem?_set_ne (by omega)]; exact e1
  exact (sn_hs_set k1 (by rfl)).trans (sn_hs_set e3 (by rfl))
theorem kpt_len (h : sn_H) (nl nb : Nat) (cv : Value) (fb : Nat → Option Nat) (a : Nat) : (kpt h nl nb cv fb a).length = h.length := by unfold kpt; rw [List.length_set, List.length_set]
theorem nbc_hs (k m l ru n : Nat) (hk : k < 6) : (nbc k m l ru n).length ≤ 7 ∧ sn_hs (nbc k m l ru n) ≤ 300 := by
  have hk4 : k = 0 ∨ k = 1 ∨ k = 2 ∨ k = 3 ∨ k = 4 ∨ k = 5 := by omega
  rcases hk4 with rfl | rfl | rfl | rfl | rfl | rfl <;> exact ⟨by simp [nbc], by simp [nbc, sn_hs, sn_sl, zI, zJ, bfs]⟩
theorem p_X_book (d : Nat) {h : sn_H} {μ : sn_S} (q : XR h μ) (h27 : 27 ≤ h.length) (kv mv lv : Int32) : SpP (d + 6) me_X_book [.ref 1, .int kv, .int mv, .int lv] h (PXi h (an_book μ kv mv lv)) := by
  have q0 := q
  obtain ⟨ws, fl, fb, ad, ru, cw, o⟩ := q
  have hX := o.1
  have h8 := ws.2.1
  generalize hz : an_book μ kv mv lv = z
  refine SpP.of ok_X_book (fun r h' z => z.rc) rfl ?_
  have J : ∀ kd m : Nat, kd < 6 → ((if kd = 4 then 3 else 2) ≤ m ∧ m ≤ 32) → (if fitb kd (manyl μ lv) = false then (- nI 101, μ) else if snb μ = 8 then (- nI 104, μ) else (nI (snb μ), addB μ (nbk kd m (tn lv)))) = z → EvP o0 (d + 6) me_X_book 27 [.ref 1, .int (nI kd), .int (nI m), .int lv] [] h (PXi h z) := by
    intro kd m hkd hm3 hz
    refine EvP.s (fun _ _ K => Ev.go 3 rfl K) ?_
    refine EvP.s (fun _ _ K => Ev.cv (E' := me_X_areLawsFor) rfl mk_X_areLawsFor lv_0_86_0 rfl hX rfl (e_X_areLawsFor (d + 4) hX rfl ws.1.1 rfl hkd _) K) ?_
    refine EvP.zn rfl rfl (fun c33 => ?_) (fun c33 => ?_)
    · refine EvP.s (fun _ _ K => Ev.go 1 rfl K) ?_
      refine EvP.s (fun _ _ K => Ev.gf rfl lf_0_25_0 hX rfl K) ?_
      refine EvP.s (fun _ _ K => Ev.go 1 rfl K) ?_
      refine EvP.ilt rfl rfl rfl (by omega) (by omega) (fun c45 => ?_) (fun c45 => ?_)
      · have hl0 : rg lv (2 ^ (sw μ).1) := by
          by_cases e : rg lv (2 ^ (sw μ).1)
          · exact e
          · rw [show manyl μ lv = 0 from if_neg e, fitb_0] at c33; cases c33
        obtain ⟨l, hl, hl2, rfl⟩ := rg_ex hl0
        have hml : manyl μ (nI l) = pcnt l := by unfold manyl; rw [if_pos hl0, tn_nI hl2]
        rw [hml] at c33 hz
        rw [tn_nI hl2] at hz
        obtain ⟨r2, h2, sp2, er, f2, eh, hRU⟩ := e_X_lawsOf (d + 4) ws o rfl hl
        subst er
        subst eh
        have hwb : WB (sw μ).1 (nbk kd m l) := WB.nbk (by omega) hm3.1 hm3.2 hl c33
        have o1 : XO (h ++ [.inl (3, pcnt l, .inr (.inr (.inr (.inr f2))))]) μ fl fb ad ru cw := o.ap ws
        generalize hh1 : h ++ [.inl (3, pcnt l, .inr (.inr (.inr (.inr f2))))] = h1 at sp2 hRU o1 ⊢
        have hl1 : h1.length = h.length + 1 := by rw [← hh1, List.length_append]; rfl
        have hhs : sn_hs h1 = sn_hs h + pcnt l := by rw [← hh1, sn_hs_app]; rfl
        have hp3 := pcnt_le (n := l) (k := 8) (by have : 2 ^ (sw μ).1 ≤ 2 ^ 8 := Nat.pow_le_pow_right (by omega) ws.1.1; omega)
        have hR := BR.new (h := h1) (k := kd) (m := m) hkd hRU
        have k1 := ap_old (L := nbc kd m l h.length h1.length) o1.1
        have k3 := ap_old (L := nbc kd m l h.length h1.length) o1.2.2.1
        have hci : sn_bk (kd + 3) := sn_bk_of (by omega)
        have hN := hR.1.1
        refine EvP.s (fun _ _ K => Ev.go 6 rfl K) ?_
        refine EvP.s (fun _ _ K => Ev.cv (E' := me_X_lawsOf) rfl mk_X_lawsOf lv_0_90_0 rfl hX rfl (sp2) K) ?_
        refine EvP.s (fun _ _ K => Ev.cs (E' := me_X_newBook) rfl mk_X_newBook ls_0_94 rfl rfl (e_X_newBook d rfl rfl rfl hkd (by omega)) K) ?_
        have hX := k1
        refine EvP.s (fun _ _ K => Ev.cv (E' := me_X_keep) rfl mk_X_keep lv_0_98_0 rfl hX rfl (e_X_keep (d + 5) k1 k3 hci hN c45) K) ?_
        refine ⟨_, _, Ev.reti rfl rfl, ?_⟩
        have hap : ∀ i, i < h1.length → (h1 ++ nbc kd m l h.length h1.length)[i]? = h1[i]? := fun i hi => List.getElem?_append_left hi
        have ok := o1.kept ws (by omega) hap hwb hR
        have hnb := nbc_hs kd m l h.length h1.length hkd
        refine PXi.mk ⟨ws.addB c45 hwb, _, _, _, _, _, ok⟩ (fun i hi hlt => ?_) ⟨?_, ?_⟩ ?_
        · rw [kpt_lw hap _ _ _ _ _ i hi (by omega), ← hh1, List.getElem?_append_left hlt]
        · rw [kpt_len, List.length_append]; omega
        · rw [kpt_hs k1 k3, sn_hs_appL]; omega
        · rw [← hz, if_neg (by rw [c33]; decide), if_neg (by omega)]
      refine EvP.s (fun _ _ K => Ev.go 1 rfl K) ?_
      refine ⟨_, _, Ev.reti rfl rfl, ?_⟩
      refine PXi.mk q0 (LW.refl _) (GB.refl _) ?_
      rw [← hz, if_neg (by rw [c33]; decide), if_pos (by omega)]
    refine EvP.s (fun _ _ K => Ev.go 1 rfl K) ?_
    refine ⟨_, _, Ev.reti rfl rfl, ?_⟩
    refine PXi.mk q0 (LW.refl _) (GB.refl _) ?_
    rw [← hz, if_pos c33]
  refine EvP.s (fun _ _ K => Ev.go 1 rfl K) ?_
  refine EvP.s (fun _ _ K => Ev.cs (E' := me_X_isKind) rfl mk_X_isKind ls_0_83 rfl rfl (e_X_isKind (d + 5) _ _) K) ?_
  refine EvP.zb rfl rfl (fun c4 => ?_) (fun c4 => ?_)
  · refine EvP.s (fun _ _ K => Ev.go 1 rfl K) ?_
    refine ⟨_, _, Ev.reti rfl rfl, ?_⟩
    refine PXi.mk q0 (LW.refl _) (GB.refl _) ?_
    rw [← hz]
    unfold an_book
    rw [if_pos (fun z => ofn c4 z.1)]
  refine EvP.s (fun _ _ K => Ev.go 1 rfl K) ?_
  refine EvP.s (fun _ _ K => Ev.cs (E' := me_X_isSize) rfl mk_X_isSize ls_0_54 rfl rfl (e_X_isSize (d + 5) _ _) K) ?_
  refine EvP.zb rfl rfl (fun c11 => ?_) (fun c11 => ?_)
  · refine EvP.s (fun _ _ K => Ev.go 1 rfl K) ?_
    refine ⟨_, _, Ev.reti rfl rfl, ?_⟩
    refine PXi.mk q0 (LW.refl _) (GB.refl _) ?_
    rw [← hz]
    unfold an_book
    rw [if_pos (fun z => ofn c11 ⟨by have h1 := z.2.1; split at h1 <;> omega, z.2.2⟩)]
  obtain ⟨kd, hkd, hkd2, rfl⟩ := rg_ex (ofd c4)
  obtain ⟨m, hm1, hm2, rfl⟩ := rg_ex (x := mv) (n := 33) ⟨by have := ofd c11; omega, by have := ofd c11; omega⟩
  have hm0 := ofd c11
  rw [nI_toInt hm2] at hm0
  refine EvP.s (fun _ _ K => Ev.go 2 rfl K) ?_
  refine EvP.ine rfl rfl rfl (by omega) (by omega) (fun c16 => ?_) (fun c16 => ?_)
  · have hm3 : (if kd = 4 then 3 else 2) ≤ m ∧ m ≤ 32 := by
      split <;> omega
    have hu : an_book μ (nI kd) (nI m) lv = if fitb kd (manyl μ lv) = false then (- nI 101, μ) else if snb μ = 8 then (- nI 104, μ) else (nI (snb μ), addB μ (nbk kd m (tn lv))) := by
      unfold an_book
      rw [if_neg (fun z => z ⟨ofd c4, by rw [tn_nI hkd2, nI_toInt hm2]; obtain ⟨a1, a2⟩ := hm3; split at a1 <;> rename_i e <;> simp only [e, if_true, if_false] <;> omega⟩), tn_nI hkd2, tn_nI hm2]
    rw [hu] at hz
    exact J kd m hkd hm3 hz
  refine EvP.s (fun _ _ K => Ev.go 2 rfl K) ?_
  refine EvP.ige rfl rfl rfl (by omega) (by omega) (fun c21 => ?_) (fun c21 => ?_)
  · have hm3 : (if kd = 4 then 3 else 2) ≤ m ∧ m ≤ 32 := by
      split <;> omega
    have hu : an_book μ (nI kd) (nI m) lv = if fitb kd (manyl μ lv) = false then (- nI 101, μ) else if snb μ = 8 then (- nI 104, μ) else (nI (snb μ), addB μ (nbk kd m (tn lv))) := by
      unfold an_book
      rw [if_neg (fun z => z ⟨ofd c4, by rw [tn_nI hkd2, nI_toInt hm2]; obtain ⟨a1, a2⟩ := hm3; split at a1 <;> rename_i e <;> simp only [e, if_true, if_false] <;> omega⟩), tn_nI hkd2, tn_nI hm2]
    rw [hu] at hz
    exact J kd m hkd hm3 hz
  refine EvP.s (fun _ _ K => Ev.go 1 rfl K) ?_
  refine ⟨_, _, Ev.reti rfl rfl, ?_⟩
  refine PXi.mk q0 (LW.refl _) (GB.refl _) ?_
  rw [← hz]
  unfold an_book
  rw [if_pos (fun z => by have h1 := z.2.1; rw [tn_nI hkd2, if_pos c16, nI_toInt hm2] at h1; omega)]
