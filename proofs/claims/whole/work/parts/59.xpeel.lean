/-! ONCE AND TWICE -/
def twc (P : Nat → Bool) (g : Nat → Nat) : Nat → Nat
  | 0 => 0
  | n + 1 => twc P g n ||| (if P n then orf (fun x => if P x then g x else 0) n &&& g n else 0)
theorem one_tb (P : Nat → Bool) (g : Nat → Nat) (i : Nat) : ∀ n, (orf (fun x => if P x then g x else 0) n).testBit i = decide (1 ≤ ctf (fun x => P x && (g x).testBit i) n)
  | 0 => by simp [orf, ctf]
  | n + 1 => by
    rw [orf, Nat.testBit_or, one_tb P g i n, ctf]
    cases hP : P n with
    | false => simp
    | true =>
      cases hg : (g n).testBit i with
      | false => simp [hg]
      | true => simp [hg]
theorem two_tb (P : Nat → Bool) (g : Nat → Nat) (i : Nat) : ∀ n, (twc P g n).testBit i = decide (2 ≤ ctf (fun x => P x && (g x).testBit i) n)
  | 0 => by simp [twc, ctf]
  | n + 1 => by
    rw [twc, Nat.testBit_or, two_tb P g i n, ctf]
    cases hP : P n with
    | false => simp
    | true =>
      rw [if_pos rfl, Nat.testBit_and, one_tb P g i n]
      cases hg : (g n).testBit i with
      | false => simp
      | true =>
        simp
        omega
theorem twc_lt {P : Nat → Bool} {g : Nat → Nat} {k : Nat} : ∀ n, (∀ i, i < n → g i < 2 ^ k) → twc P g n < 2 ^ k
  | 0, _ => Nat.two_pow_pos k
  | n + 1, h => by
    rw [twc]
    refine Nat.or_lt_two_pow (twc_lt n (fun i hi => h i (by omega))) ?_
    split
    · exact Nat.lt_of_le_of_lt Nat.and_le_right (h n (by omega))
    · exact Nat.two_pow_pos k
theorem ctf_uniq {f : Nat → Bool} {n a b : Nat} (h : ctf f n = 1) (ha : a < n) (hb : b < n) (fa : f a = true) (fb : f b = true) : a = b := by
  rcases Nat.lt_trichotomy a b with q | q | q
  · have h1 := ctf_lt fa q
    have h2 := ctf_lt fb hb
    omega
  · exact q
  · have h1 := ctf_lt fb q
    have h2 := ctf_lt fa ha
    omega
/-- places that just one of the keys left has -/
def alo (w : sn_Lw) (b : sn_Bk) (c : Nat) : Nat := andn (orf (fun x => if c.testBit x then pls w b x else 0) 32) (twc (fun x => c.testBit x) (pls w b) 32)
theorem alo_tb (w : sn_Lw) (b : sn_Bk) (c i : Nat) : (alo w b c).testBit i = decide (ctf (fun x => c.testBit x && (pls w b x).testBit i) 32 = 1) := by
  unfold alo
  rw [andn_tb, one_tb (fun x => c.testBit x) (pls w b), two_tb (fun x => c.testBit x) (pls w b)]
  generalize ctf (fun x => c.testBit x && (pls w b x).testBit i) 32 = N
  by_cases e : N = 1
  · subst e; rfl
  · rw [decide_eq_false e]
    by_cases e2 : 1 ≤ N
    · rw [decide_eq_true e2, decide_eq_true (show 2 ≤ N by omega)]; rfl
    · rw [decide_eq_false e2]; rfl
theorem one_lt {w : sn_Lw} {b : sn_Bk} {n : Nat} (hb : WB n b) (c m : Nat) : orf (fun x => if c.testBit x then pls w b x else 0) m < 2 ^ 32 := orf_lt (fun i => by split; exact pls_lt hb i; omega) m
theorem alo_lt {w : sn_Lw} {b : sn_Bk} {n : Nat} (hb : WB n b) (c : Nat) : alo w b c < 2 ^ 32 := andn_lt (one_lt hb c 32)
theorem pls_bm {w : sn_Lw} {b : sn_Bk} {n : Nat} (hb : WB n b) {x i : Nat} (h : (pls w b x).testBit i = true) : i < bm b := by
  have hm := hb.2.1
  unfold pls at h
  split at h
  · rw [Nat.testBit_or, Nat.testBit_two_pow, Nat.testBit_two_pow, Bool.or_eq_true] at h
    rcases h with h | h
    · have := of_decide_eq_true h; have := frs_lt (w := w) hb x; omega
    · have := of_decide_eq_true h; have := oth_lt (frs w b x) (mrk w b 1 x) (show 0 < bm b by omega); omega
  · obtain ⟨j, _, h2⟩ := (orf_tb _ _ _).mp h
    rw [Nat.testBit_two_pow] at h2
    have := of_decide_eq_true h2; have := plc_lt (w := w) hb j x; omega
theorem lnF_none {w : sn_Lw} {b : sn_Bk} {c : Nat} : ∀ {n i : Nat}, (∀ p, i ≤ p → p < i + n → ctf (fun x => c.testBit x && (pls w b x).testBit p) 32 ≠ 1) → lnF w b c n i = none
  | 0, _, _ => rfl
  | n + 1, i, h => by
    unfold lnF
    rw [if_neg (h i (Nat.le_refl _) (by omega))]
    exact lnF_none (fun p h1 h2 => h p (by omega) (by omega))
theorem lnF_some {w : sn_Lw} {b : sn_Bk} {c t : Nat} : ∀ {n i : Nat}, i ≤ t → t < i + n → ctf (fun x => c.testBit x && (pls w b x).testBit t) 32 = 1 → (∀ p, i ≤ p → p < t → ctf (fun x => c.testBit x && (pls w b x).testBit p) 32 ≠ 1) → lnF w b c n i = some t
  | 0, _, h1, h2, _, _ => absurd h2 (by omega)
  | n + 1, i, h1, h2, h3, h4 => by
    unfold lnF
    by_cases e : i = t
    · subst e; rw [if_pos h3]
    · rw [if_neg (h4 i (Nat.le_refl _) (by omega))]
      exact lnF_some (by omega) (by omega) h3 (fun p h5 h6 => h4 p (by omega) h6)
theorem lone_0 {w : sn_Lw} {b : sn_Bk} {c : Nat} (h : alo w b c = 0) : lone w b c = none := lnF_none (fun p _ _ q => by
  have e := alo_tb w b c p
  rw [h, decide_eq_true q, Nat.zero_testBit] at e
  cases e)
theorem lone_t {w : sn_Lw} {b : sn_Bk} {n c t q : Nat} (hb : WB n b) (h : alo w b c = 2 ^ (t + 1) * q + 2 ^ t) : lone w b c = some t := by
  have ht : ctf (fun x => c.testBit x && (pls w b x).testBit t) 32 = 1 := by
    have e := alo_tb w b c t
    rw [h, low_tb, if_pos (by omega), decide_eq_true rfl] at e
    exact of_decide_eq_true e.symm
  have hbm : t < bm b := by
    obtain ⟨x, _, hx⟩ := ctf_one (f := fun x => c.testBit x && (pls w b x).testBit t) (n := 32) (by omega)
    simp only [Bool.and_eq_true] at hx
    exact pls_bm hb hx.2
  refine lnF_some (Nat.zero_le _) (by omega) ht (fun p _ hp q2 => ?_)
  have e := alo_tb w b c p
  rw [h, low_tb, if_pos (by omega), decide_eq_true q2] at e
  have := of_decide_eq_true e
  omega
/-! THE CLASS: folding -/
theorem e_F_placesOfOneKey (d : Nat) {h : sn_H} {w : sn_Lw} {b : sn_Bk} {ad ru : Nat} (hb : WB w.1 b) (h4 : bk b = 4) (hB : h[ad]? = some (.inr (7, bfs b ad ru [.ref (ad + 3), .ref (ad + 4), .ref (ad + 5)]))) {fB : Nat → Int64} (hF : h[ad + 3]? = some (.inl (1, 32, .inr (.inl fB)))) (hfB : ∀ x, x < 32 → fB x = lN (pls w b x)) {c : Nat} {cv : Int64} (e1 : cv = lN c) (hc : c < 2 ^ 32) : Sp (d + 1) me_F_placesOfOneKey [.ref ad, .long cv] h (some (.long (lN (alo w b c)))) h := by
  subst e1
  refine Sp.of ok_F_placesOfOneKey trivial rfl ?_
  have L : ∀ (n : Nat) (i : Nat) (av : Int64) (tv : Int64) (iv : Int32), (i + n = 32) → (av = lN (orf (fun x => if c.testBit x then pls w b x else 0) i)) → (tv = lN (twc (fun x => c.testBit x) (pls w b) i)) → (iv = nI i) → Ev o0 (d + 1) me_F_placesOfOneKey 8 [.ref ad, .long (lN c), .retAddr 0, .long av, .retAddr 0, .long tv, .retAddr 0, .int iv] [] h (some (.long (lN (alo w b c)))) h := by
    intro n
    induction n using Nat.strongRecOn with
    | _ n ih =>
      intro i av tv iv k1 k2 k3 e3
      subst k2
      subst k3
      subst e3
      refine Ev.go 2 rfl ?_
      refine Ev.ige rfl rfl rfl (by omega) (by omega) (fun c12 => ?_) (fun c12 => ?_)
      · refine Ev.go 5 rfl ?_
        exact Ev.retl rfl (by rw [lN_andn, show i = 32 by omega]; rfl)
      refine Ev.go 2 rfl ?_
      refine Ev.cs (E' := me_X_has) rfl mk_X_has ls_7_36 rfl rfl (e_X_has d _ rfl rfl (by omega) (by omega)) ?_
      refine Ev.zb rfl rfl (fun c21 => ?_) (fun c21 => ?_)
      · skip
        refine Ev.go 2 rfl ?_
        exact ih (n - 1) (by omega) (i + 1) _ _ _ (by omega) (by simp [orf, c21]) (by simp [twc, c21]) (by rw [nI_add])
      refine Ev.go 3 rfl ?_
      refine Ev.gf rfl lf_7_9_7 hB rfl ?_
      refine Ev.go 1 rfl ?_
      refine Ev.lln rfl hF rfl (by omega) (by omega) ?_
      rw [hfB i (by omega)]
      refine Ev.go 2 rfl ?_
      skip
      refine Ev.go 3 rfl ?_
      refine Ev.gf rfl lf_7_9_7 hB rfl ?_
      refine Ev.go 1 rfl ?_
      refine Ev.lln rfl hF rfl (by omega) (by omega) ?_
      rw [hfB i (by omega)]
      refine Ev.go 2 rfl ?_
      skip
      refine Ev.go 2 rfl ?_
      exact ih (n - 1) (by omega) (i + 1) _ _ _ (by omega) (or_step (by simp [c21])) (by rw [fb_andL, fb_orL]; simp [twc, c21]) (by rw [nI_add])
  refine Ev.go 6 rfl ?_
  exact L 32 0 _ _ _ (by omega) rfl rfl rfl
theorem e_F_keyAt (d : Nat) {h : sn_H} {w : sn_Lw} {b : sn_Bk} {ad ru : Nat} (hb : WB w.1 b) (h4 : bk b = 4) (hB : h[ad]? = some (.inr (7, bfs b ad ru [.ref (ad + 3), .ref (ad + 4), .ref (ad + 5)]))) {fB : Nat → Int64} (hF : h[ad + 3]? = some (.inl (1, 32, .inr (.inl fB)))) (hfB : ∀ x, x < 32 → fB x = lN (pls w b x)) {c t K : Nat} {cv : Int64} {tv : Int32} (e1 : cv = lN c) (e2 : tv = nI t) (hc : c < 2 ^ 32) (ht : t < 32) (hK32 : K < 32) (hK : c.testBit K = true ∧ (pls w b K).testBit t = true) (hU : ∀ x, x < 32 → c.testBit x = true → (pls w b x).testBit t = true → x = K) : Sp (d + 1) me_F_keyAt [.ref ad, .long cv, .int tv] h (some (.int (nI K))) h := by
  subst e1; subst e2
  refine Sp.of ok_F_keyAt trivial rfl ?_
  have L : ∀ (n : Nat) (i : Nat) (av : Int32) (iv : Int32), (i + n = 32) → (av = nI (if K < i then K else 0)) → (iv = nI i) → Ev o0 (d + 1) me_F_keyAt 6 [.ref ad, .long (lN c), .retAddr 0, .int (nI t), .int av, .int iv] [] h (some (.int (nI K))) h := by
    intro n
    induction n using Nat.strongRecOn with
    | _ n ih =>
      intro i av iv k1 k2 e3
      subst k2
      subst e3
      refine Ev.go 2 rfl ?_
      refine Ev.ige rfl rfl rfl (by omega) (by omega) (fun c10 => ?_) (fun c10 => ?_)
      · refine Ev.go 1 rfl ?_
        exact Ev.reti rfl (by rw [if_pos (by omega)])
      refine Ev.go 2 rfl ?_
      refine Ev.cs (E' := me_X_has) rfl mk_X_has ls_7_36 rfl rfl (e_X_has d _ rfl rfl (by omega) (by omega)) ?_
      refine Ev.zb rfl rfl (fun c19 => ?_) (fun c19 => ?_)
      · refine Ev.go 2 rfl ?_
        exact ih (n - 1) (by omega) (i + 1) _ _ (by omega) (by congr 1; have hne : K ≠ i := (fun e => by subst e; rw [c19] at hK; cases hK.1); by_cases q : K < i; rw [if_pos q, if_pos (by omega)]; rw [if_neg q, if_neg (by omega)]) (by rw [nI_add])
      refine Ev.go 1 rfl ?_
      refine Ev.gf rfl lf_7_9_7 hB rfl ?_
      refine Ev.go 1 rfl ?_
      refine Ev.lln rfl hF rfl (by omega) (by omega) ?_
      rw [hfB i (by omega)]
      refine Ev.go 1 rfl ?_
      refine Ev.cs (E' := me_X_has) rfl mk_X_has ls_7_36 rfl rfl (e_X_has d _ rfl rfl (by have := pls_lt (w := w) hb i; omega) (by omega)) ?_
      refine Ev.zb rfl rfl (fun c33 => ?_) (fun c33 => ?_)
      · refine Ev.go 2 rfl ?_
        exact ih (n - 1) (by omega) (i + 1) _ _ (by omega) (by congr 1; have hne : K ≠ i := (fun e => by subst e; rw [c33] at hK; cases hK.2); by_cases q : K < i; rw [if_pos q, if_pos (by omega)]; rw [if_neg q, if_neg (by omega)]) (by rw [nI_add])
      refine Ev.go 4 rfl ?_
      exact ih (n - 1) (by omega) (i + 1) _ _ (by omega) (by congr 1; have e := hU i (by omega) c19 c33; subst e; rw [if_pos (by omega)]) (by rw [nI_add])
  refine Ev.go 4 rfl ?_
  exact L 32 0 _ _ (by omega) (by rw [if_neg (by omega)]) rfl
/-- a Folded's own rows are free -/
theorem BR.rowF {h h' : sn_H} {w : sn_Lw} {b : sn_Bk} {ad ru : Nat} (q : BR h w b ad ru) (h4 : bk b = 4) (g : AG h h' (ad + 3) 3) (k3 : JR h' (ad + 3) 32) (k4 : IR h' (ad + 4) 32) (k5 : IR h' (ad + 5) 32) : BR h' w b ad ru := by
  have e7 : bln b = 6 := by unfold bln; rw [if_neg (by omega), if_pos h4]
  have ne : ∀ c, c < ad + 3 → h'[c]? = h[c]? := fun c hc => g.2 c (by omega)
  have q0 := q
  obtain ⟨_, _, hr⟩ := q.1.2.cell
  obtain ⟨⟨hB, hRU⟩, ⟨f1, hN, hn⟩, ⟨f2, hT, ht⟩, hU, hF, hL, h0⟩ := q
  exact ⟨⟨by rw [ne ad (by omega)]; exact hB, hRU.ag (g.mono (a' := ad) (n' := bln b) (by omega) (by omega)) (q0.out3 hr) (fun c f hc => q0.out2 hc)⟩, ⟨f1, by rw [ne _ (by omega)]; exact hN, hn⟩, ⟨f2, by rw [ne _ (by omega)]; exact hT, ht⟩, fun e => absurd e (by omega), fun _ => ⟨k3, k4, k5⟩, fun e => absurd e (by omega), h0⟩
/-- the rows of a Folded -/
def FR (h : sn_H) (w : sn_Lw) (b : sn_Bk) (ad : Nat) (T : List (Nat × Nat)) : Prop := (∃ fB, h[ad + 3]? = some (.inl (1, 32, .inr (.inl fB))) ∧ ∀ x, x < 32 → fB x = lN (pls w b x)) ∧ (∃ fK, h[ad + 4]? = some (.inl (0, 32, .inl fK)) ∧ ∀ j, j < T.length → fK j = nI (T.getD j (0, 0)).1) ∧ (∃ fP, h[ad + 5]? = some (.inl (0, 32, .inl fP)) ∧ ∀ j, j < T.length → fP j = nI (T.getD j (0, 0)).2) ∧ ∀ e ∈ T, e.1 < 32 ∧ e.2 < bm b
theorem FR.step {h : sn_H} {w : sn_Lw} {b : sn_Bk} {ad : Nat} {T : List (Nat × Nat)} (q : FR h w b ad T) {K t : Nat} (hK : K < 32) (ht : t < bm b) {fK fP : Nat → Int32} (h4 : h[ad + 4]? = some (.inl (0, 32, .inl fK))) (h5 : h[ad + 5]? = some (.inl (0, 32, .inl fP))) : FR ((h.set (ad + 4) (.inl (0, 32, .inl (upd fK T.length (nI K))))).set (ad + 5) (.inl (0, 32, .inl (upd fP T.length (nI t))))) w b ad (T ++ [(K, t)]) := by
  obtain ⟨⟨fB, q1, q2⟩, ⟨fK', q3, q4⟩, ⟨fP', q5, q6⟩, q7⟩ := q
  have e1 : fK' = fK := by rw [h4] at q3; cases q3; rfl
  have e2 : fP' = fP := by rw [h5] at q5; cases q5; rfl
  subst e1; subst e2
  refine ⟨⟨fB, by rw [List.getElem?_set_ne (by omega), List.getElem?_set_ne (by omega)]; exact q1, q2⟩, ⟨_, by rw [List.getElem?_set_ne (by omega)]; exact List.getElem?_set_self (cell_lt h4), fun j hj => ?_⟩, ⟨_, List.getElem?_set_self (by rw [List.length_set]; exact cell_lt h5), fun j hj => ?_⟩, fun e he => ?_⟩
  · rw [List.length_append, List.length_singleton] at hj
    rw [List.getD_eq_getElem?_getD]
    by_cases e : j = T.length
    · subst e; rw [pk_us, List.getElem?_append_right (Nat.le_refl _), Nat.sub_self]; rfl
    · rw [pk_un e, List.getElem?_append_left (by omega), ← List.getD_eq_getElem?_getD]; exact q4 j (by omega)
  · rw [List.length_append, List.length_singleton] at hj
    rw [List.getD_eq_getElem?_getD]
    by_cases e : j = T.length
    · subst e; rw [pk_us, List.getElem?_append_right (Nat.le_refl _), Nat.sub_self]; rfl
    · rw [pk_un e, List.getElem?_append_left (by omega), ← List.getD_eq_getElem?_getD]; exact q6 j (by omega)
  · rcases List.mem_append.mp he with q | q
    · exact q7 e q
    · rw [List.mem_singleton] at q; subst q; exact ⟨hK, ht⟩
def PF (h : sn_H) (w : sn_Lw) (b : sn_Bk) (ad c0 : Nat) (z : Option (List (Nat × Nat))) (r : Option Value) (h' : sn_H) : Prop := r = some (.int (b2i z.isSome)) ∧ AG h h' (ad + 3) 3 ∧ (∃ T, FR h' w b ad T) ∧ ∀ T, z = some T → FR h' w b ad T ∧ T.length = pcnt c0
theorem PF.rc {h : sn_H} {w : sn_Lw} {b : sn_Bk} {ad c0 : Nat} {z : Option (List (Nat × Nat))} {r : Option Value} {h' : sn_H} (q : PF h w b ad c0 z r h') : sn_rc (some .boolean) r := by
  obtain ⟨rfl, _⟩ := q; exact b2i_rc _
theorem BR.ofFR {h h' : sn_H} {w : sn_Lw} {b : sn_Bk} {ad ru : Nat} {T : List (Nat × Nat)} (q : BR h w b ad ru) (h4 : bk b = 4) (g : AG h h' (ad + 3) 3) (f : FR h' w b ad T) : BR h' w b ad ru := by
  obtain ⟨⟨fB, q1, _⟩, ⟨fK, q3, _⟩, ⟨fP, q5, _⟩, _⟩ := f
  exact q.rowF h4 g ⟨_, q1⟩ ⟨_, q3⟩ ⟨_, q5⟩
theorem e_F_peel (d : Nat) {h : sn_H} {w : sn_Lw} {b : sn_Bk} {ad ru : Nat} (hw : WL w) (hb : WB w.1 b) (hR : BR h w b ad ru) (h4 : bk b = 4) {c0 : Nat} {cv0 : Int64} (e1 : cv0 = lN c0) (hc0 : c0 < 2 ^ 32) : SpP (d + 2) me_F_peel [.ref ad, .long cv0] h (PF h w b ad c0 (pel w b 32 c0)) := by
  subst e1
  have hbx : bex b ad = [.ref (ad + 3), .ref (ad + 4), .ref (ad + 5)] := by unfold bex; rw [if_neg (by omega), if_pos h4]
  obtain ⟨⟨fB0, hF0⟩, hK00, hP00⟩ := id (hR.2.2.2.2.1 h4)
  generalize hz : pel w b 32 c0 = z
  refine SpP.of ok_F_peel (fun r h' z => z.rc) rfl ?_
  have L2 : ∀ (n : Nat) (h1 : sn_H) (T : List (Nat × Nat)) (c : Nat) (cv : Int64) (iv : Int32) (v6 : Value) (v8 : Value) (v9 : Value), (T.length + n = 32) → (AG h h1 (ad + 3) 3) → (FR h1 w b ad T) → (c < 2 ^ 32) → (T.length + pcnt c = pcnt c0) → ((pel w b n c).map (fun U => T ++ U) = z) → (cv = lN c) → (iv = nI T.length) → EvP o0 (d + 2) me_F_peel 30 [.ref ad, .long (lN c0), .retAddr 0, .long cv, .retAddr 0, .int iv, v6, .retAddr 0, v8, v9] [] h1 (PF h w b ad c0 z) := by
    intro n
    induction n using Nat.strongRecOn with
    | _ n ih =>
      intro h1 T c cv iv v6 v8 v9 k1 hA hFR hc hpc hG e2 e3
      subst e2
      subst e3
      have hR1 := hR.ofFR h4 hA hFR
      have hB := hR1.1.1
      rw [h4, hbx] at hB
      obtain ⟨⟨fB, hF, hfB⟩, ⟨fK, hFK, _⟩, ⟨fP, hFP, _⟩, _⟩ := id hFR
      refine EvP.s (fun _ _ K => Ev.go 2 rfl K) ?_
      refine EvP.ige rfl rfl rfl (by omega) (by omega) (fun c34 => ?_) (fun c34 => ?_)
      · refine EvP.s (fun _ _ K => Ev.go 2 rfl K) ?_
        refine EvP.lne rfl rfl rfl rfl (by omega) (by omega) (fun c112 => ?_) (fun c112 => ?_)
        · refine EvP.s (fun _ _ K => Ev.go 1 rfl K) ?_
          refine ⟨_, _, Ev.reti rfl rfl, ?_⟩
          have hz2 : z = none := by
            rw [← hG]
            have e0 : n = 0 := by omega
            subst e0
            simp only [pel]
            rw [if_neg c112]; rfl
          subst hz2
          exact ⟨rfl, hA, ⟨T, hFR⟩, fun _ e => by cases e⟩
        refine EvP.s (fun _ _ K => Ev.go 2 rfl K) ?_
        refine ⟨_, _, Ev.reti rfl rfl, ?_⟩
        have hz2 : z = some T := by
          rw [← hG]
          cases n with
          | zero => simp only [pel]; rw [if_pos c112]; simp
          | succ m => simp only [pel]; rw [if_pos c112]; simp
        subst hz2
        refine ⟨rfl, hA, ⟨T, hFR⟩, fun U e => ?_⟩
        cases e
        refine ⟨hFR, ?_⟩
        rw [c112, pcnt_0] at hpc
        exact hpc
      refine EvP.s (fun _ _ K => Ev.go 2 rfl K) ?_
      refine EvP.leq rfl rfl rfl rfl (by omega) (by omega) (fun c39 => ?_) (fun c39 => ?_)
      · refine EvP.s (fun _ _ K => Ev.go 2 rfl K) ?_
        refine EvP.lne rfl rfl rfl rfl (by omega) (by omega) (fun c112 => ?_) (fun c112 => ?_)
        · refine EvP.s (fun _ _ K => Ev.go 1 rfl K) ?_
          refine ⟨_, _, Ev.reti rfl rfl, ?_⟩
          have hz2 : z = none := by
            rw [← hG]
            have e0 : n = 0 := by omega
            subst e0
            simp only [pel]
            rw [if_neg c112]; rfl
          subst hz2
          exact ⟨rfl, hA, ⟨T, hFR⟩, fun _ e => by cases e⟩
        refine EvP.s (fun _ _ K => Ev.go 2 rfl K) ?_
        refine ⟨_, _, Ev.reti rfl rfl, ?_⟩
        have hz2 : z = some T := by
          rw [← hG]
          cases n with
          | zero => simp only [pel]; rw [if_pos c112]; simp
          | succ m => simp only [pel]; rw [if_pos c112]; simp
        subst hz2
        refine ⟨rfl, hA, ⟨T, hFR⟩, fun U e => ?_⟩
        cases e
        refine ⟨hFR, ?_⟩
        rw [c112, pcnt_0] at hpc
        exact hpc
      obtain ⟨m, rfl⟩ : ∃ m, n = m + 1 := ⟨n - 1, by omega⟩
      refine EvP.s (fun _ _ K => Ev.go 2 rfl K) ?_
      refine EvP.s (fun _ _ K => Ev.cv (E' := me_F_placesOfOneKey) rfl mk_F_placesOfOneKey lv_7_63_7 rfl hB rfl (e_F_placesOfOneKey d hb h4 hB hF hfB rfl hc) K) ?_
      refine EvP.s (fun _ _ K => Ev.go 3 rfl K) ?_
      refine EvP.lne rfl rfl rfl rfl (by have := alo_lt (w := w) hb c; omega) (by omega) (fun c53 => ?_) (fun c53 => ?_)
      · obtain ⟨t, q, htq⟩ := low_ex c53
        have hl := lone_t hb htq
        have hk := kyo_ok hl
        have hct := (lnF_ok hl).2
        have hm := hb.2.1
        generalize hKe : kyo w b c t = K at hk
        have hU : ∀ x, x < 32 → c.testBit x = true → (pls w b x).testBit t = true → x = K := fun x hx h1 h2 => ctf_uniq hct hx hk.2.1 (by simp [h1, h2]) (by simp [hk.2.2.1, hk.2.2.2])
        refine EvP.s (fun _ _ K => Ev.go 1 rfl K) ?_
        refine EvP.s (fun _ _ K => Ev.cs (E' := me_JL_numberOfTrailingZeros) rfl mk_JL_numberOfTrailingZeros ls_7_67 rfl rfl (e_JL_ntz d _ rfl (alo_lt hb c) htq) K) ?_
        refine EvP.s (fun _ _ K => Ev.go 4 rfl K) ?_
        refine EvP.s (fun _ _ K => Ev.cv (E' := me_F_keyAt) rfl mk_F_keyAt lv_7_70_7 rfl hB rfl (e_F_keyAt d hb h4 hB hF hfB rfl rfl hc (by omega) hk.2.1 hk.2.2 hU) K) ?_
        refine EvP.s (fun _ _ K => Ev.go 2 rfl K) ?_
        refine EvP.s (fun _ _ K => Ev.gf rfl lf_7_15_7 hB rfl K) ?_
        refine EvP.s (fun _ _ K => Ev.go 2 rfl K) ?_
        refine EvP.s (fun _ _ K => Ev.isn rfl hFK rfl (by omega) (by omega) K) ?_
        have hB : (h1.set (ad + 4) (.inl (0, 32, .inl (upd fK T.length (nI K)))))[ad]? = some (.inr (7, bfs b ad ru [.ref (ad + 3), .ref (ad + 4), .ref (ad + 5)])) := by rw [List.getElem?_set_ne (by omega)]; exact hB
        have hFP0 := hFP
        have hFP : (h1.set (ad + 4) (.inl (0, 32, .inl (upd fK T.length (nI K)))))[ad + 5]? = some (.inl (0, 32, .inl fP)) := by rw [List.getElem?_set_ne (by omega)]; exact hFP0
        refine EvP.s (fun _ _ K => Ev.go 1 rfl K) ?_
        refine EvP.s (fun _ _ K => Ev.gf rfl lf_7_19_7 hB rfl K) ?_
        refine EvP.s (fun _ _ K => Ev.go 2 rfl K) ?_
        refine EvP.s (fun _ _ K => Ev.isn rfl hFP rfl (by omega) (by omega) K) ?_
        refine EvP.s (fun _ _ K => Ev.go 7 rfl K) ?_
        rw [sh1 (by omega), lN_andn]
        refine EvP.s (fun _ _ K => Ev.go 1 rfl K) ?_
        skip
        refine EvP.s (fun _ _ K => Ev.go 2 rfl K) ?_
        refine ih m (by omega) _ (T ++ [(K, t)]) (andn c (2 ^ K)) _ _ _ _ _ (by simp; omega) (hA.trans ((AG.set h1 (a := ad + 3) (n := 3) _ (by omega) (by omega)).trans (AG.set _ _ (by omega) (by omega)))) (hFR.step hk.2.1 hk.1 hFK hFP0) (andn_lt hc) ?_ ?_ rfl (by rw [nI_add]; simp)
        · have := pcnt_andn hc hk.2.1 hk.2.2.1
          simp; omega
        · rw [← hG]
          simp only [pel]
          rw [if_neg c39, hl]
          simp only [hKe]
          cases pel w b m (andn c (2 ^ K)) with
          | none => rfl
          | some U => simp
      refine EvP.s (fun _ _ K => Ev.go 1 rfl K) ?_
      refine ⟨_, _, Ev.reti rfl rfl, ?_⟩
      have hz2 : z = none := by
        rw [← hG]
        simp only [pel]
        rw [if_neg c39, lone_0 c53]; rfl
      subst hz2
      exact ⟨rfl, hA, ⟨T, hFR⟩, fun _ e => by cases e⟩
  have L1 : ∀ (n : Nat) (h1 : sn_H) (fB : Nat → Int64) (i : Nat) (iv : Int32), (i + n = 32) → (AG h h1 (ad + 3) 3) → (h1[ad + 3]? = some (.inl (1, 32, .inr (.inl fB)))) → (∀ x, x < i → fB x = lN (pls w b x)) → (IR h1 (ad + 4) 32) → (IR h1 (ad + 5) 32) → (iv = nI i) → EvP o0 (d + 2) me_F_peel 2 [.ref ad, .long (lN c0), .retAddr 0, .int iv, .retAddr 0, .retAddr 0, .retAddr 0, .retAddr 0, .retAddr 0, .retAddr 0] [] h1 (PF h w b ad c0 z) := by
    intro n
    induction n using Nat.strongRecOn with
    | _ n ih =>
      intro h1 fB i iv k1 hA hF hfB hK0 hP0 e3
      subst e3
      have hR1 := hR.rowF h4 hA ⟨_, hF⟩ hK0 hP0
      have hB := hR1.1.1
      rw [h4, hbx] at hB
      refine EvP.s (fun _ _ K => Ev.go 2 rfl K) ?_
      refine EvP.ige rfl rfl rfl (by omega) (by omega) (fun c5 => ?_) (fun c5 => ?_)
      · refine EvP.s (fun _ _ K => Ev.go 4 rfl K) ?_
        obtain ⟨fK, hK0⟩ := hK0
        obtain ⟨fP, hP0⟩ := hP0
        exact L2 32 h1 [] c0 _ _ _ _ _ rfl hA ⟨⟨fB, hF, fun x hx => hfB x (by omega)⟩, ⟨fK, hK0, fun j hj => absurd hj (Nat.not_lt_zero j)⟩, ⟨fP, hP0, fun j hj => absurd hj (Nat.not_lt_zero j)⟩, fun e he => absurd he (by simp)⟩ hc0 (by simp) (by rw [← hz]; simp) rfl rfl
      refine EvP.s (fun _ _ K => Ev.go 1 rfl K) ?_
      refine EvP.s (fun _ _ K => Ev.gf rfl lf_7_9_7 hB rfl K) ?_
      refine EvP.s (fun _ _ K => Ev.go 3 rfl K) ?_
      refine EvP.s (fun _ _ K => Ev.cv (E' := me_A_placeBits) rfl mk_A_placeBits lv_7_43_7 rfl hB rfl (e_A_placeBits d hw hb hR1.1 rfl (by omega) (by omega)) K) ?_
      refine EvP.s (fun _ _ K => Ev.lsn rfl hF rfl (by omega) (by omega) K) ?_
      refine EvP.s (fun _ _ K => Ev.go 2 rfl K) ?_
      refine ih (n - 1) (by omega) _ _ (i + 1) _ (by omega) (hA.trans (AG.set h1 _ (by omega) (by omega))) (List.getElem?_set_self (cell_lt hF)) (fun x hx => ?_) (hK0.ne (List.getElem?_set_ne (by omega))) (hP0.ne (List.getElem?_set_ne (by omega))) (by rw [nI_add])
      by_cases e : x = i
      · subst e; exact pk_uLs
      · rw [pk_uLn e]; exact hfB x (by omega)
  refine EvP.s (fun _ _ K => Ev.go 2 rfl K) ?_
  exact L1 32 h fB0 0 _ (by omega) (AG.refl _ _ _) hF0 (fun x hx => absurd hx (Nat.not_lt_zero x)) hK00 hP00 rfl
