/-! THE REFERENCE: laws and books are added -/
def fitb (kd n : Nat) : Bool := if kd = 3 then decide (n = 2) else if kd = 4 then decide (n = 3) else decide (1 ≤ n ∧ n ≤ 3)
def manyl (μ : sn_S) (l : Int32) : Nat := if rg l (2 ^ (sw μ).1) then pcnt (tn l) else 0
def an_book (μ : sn_S) (kd m l : Int32) : Int32 × sn_S :=
  if ¬ (rg kd 6 ∧ (if tn kd = 4 then 3 else 2) ≤ m.toInt ∧ m.toInt ≤ 32) then (- nI 102, μ)
  else if fitb (tn kd) (manyl μ l) = false then (- nI 101, μ)
  else if snb μ = 8 then (- nI 104, μ)
  else (nI (snb μ), addB μ (nbk (tn kd) (tn m) (tn l)))
def jn (s : Bool) (a b : Nat) : Nat := if s then min a b else max a b
def jnb (s : Bool) (a b : sn_Bk) : sn_Bk := (bk a, bm a, bl a, fun i => jn s (bn a i) (bn b i), fun i => jn s (bt a i) (bt b i), 0, fun _ => 0)
def an_join (μ : sn_S) (k l : Int32) (s : Bool) : Int32 × sn_S :=
  if ¬ (rg k (snb μ) ∧ rg l (snb μ)) then (- nI 101, μ)
  else if ¬ (bk (sbk μ (tn k)) = bk (sbk μ (tn l)) ∧ (bk (sbk μ (tn k)) = 0 ∨ bk (sbk μ (tn k)) = 2) ∧ bm (sbk μ (tn k)) = bm (sbk μ (tn l)) ∧ bl (sbk μ (tn k)) = bl (sbk μ (tn l))) then (- nI 103, μ)
  else if snb μ = 8 then (- nI 104, μ)
  else (nI (snb μ), addB μ (jnb s (sbk μ (tn k)) (sbk μ (tn l))))
def hlv (b : sn_Bk) : sn_Bk := (0, bm b / 2, bl b, fun i => if i < bm b / 2 then max (bn b i) (bn b (bm b / 2 + i)) else 0, bt b, 0, fun _ => 0)
def an_halve (μ : sn_S) (k : Int32) : Int32 × sn_S :=
  if ¬ rg k (snb μ) then (- nI 101, μ)
  else if ¬ (bk (sbk μ (tn k)) = 0 ∧ bm (sbk μ (tn k)) % 2 = 0 ∧ 2 ≤ bm (sbk μ (tn k)) / 2) then (- nI 103, μ)
  else if snb μ = 8 then (- nI 104, μ)
  else (nI (snb μ), addB μ (hlv (sbk μ (tn k))))
theorem WL.add {w : sn_Lw} (h : WL w) {a b : Nat} (h8 : w.1 < 8) (ha : 1 ≤ a ∧ a ≤ 36) (hb : b ≤ 36) : WL (w.1 + 1, uN w.2.1 w.1 a, uN w.2.2 w.1 b) := by
  refine ⟨by show w.1 + 1 ≤ 8; omega, fun l hl => ?_⟩
  have hl : l < w.1 + 1 := hl
  show 1 ≤ uN w.2.1 w.1 a l ∧ uN w.2.1 w.1 a l ≤ 36 ∧ uN w.2.2 w.1 b l ≤ 36
  unfold uN
  by_cases e : l = w.1
  · rw [if_pos e, if_pos e]; exact ⟨ha.1, ha.2, hb⟩
  · rw [if_neg e, if_neg e]; exact h.2 l (by omega)
theorem WB.more {n m : Nat} {b : sn_Bk} (h : WB n b) (hn : n ≤ m) : WB m b :=
  ⟨h.1, h.2.1, h.2.2.1, Nat.lt_of_lt_of_le h.2.2.2.1 (Nat.pow_le_pow_right (by omega) hn), h.2.2.2.2⟩
theorem WS.addL {μ : sn_S} (h : WS μ) {a b : Nat} (h8 : (sw μ).1 < 8) (ha : 1 ≤ a ∧ a ≤ 36) (hb : b ≤ 36) : WS (addL μ a b) := ⟨h.1.add h8 ha hb, h.2.1, fun k hk => (h.2.2 k hk).more (Nat.le_succ _)⟩
theorem WS.addB {μ : sn_S} (h : WS μ) {b : sn_Bk} (h8 : snb μ < 8) (hb : WB (sw μ).1 b) : WS (addB μ b) := by
  refine ⟨h.1, by show snb μ + 1 ≤ 8; omega, fun k hk => ?_⟩
  have hk : k < snb μ + 1 := hk
  show WB (sw μ).1 (if k = snb μ then b else sbk μ k)
  by_cases e : k = snb μ
  · rw [if_pos e]; exact hb
  · rw [if_neg e]; exact h.2.2 k (by omega)
theorem MS.addL {A : sn_A2} {B : sn_B2} {μ : sn_S} (h : MS A B μ) {a b : Nat} {v : Int32} (h8 : (sw μ).1 < 8) (ha : 1 ≤ a ∧ a ≤ 36) (hb : b ≤ 36) (hv : v = nI ((sw μ).1 + 1)) : MS (uA (uA (uA A 6 (upd (A 6) (sw μ).1 (nI a))) 7 (upd (A 7) (sw μ).1 (nI b))) 0 (upd (A 0) 0 v)) B (addL μ a b) := by
  subst hv
  refine ⟨h.1.addL h8 ha hb, ⟨?_, fun l hl => ?_⟩, h.2.2.1, h.2.2.2⟩
  · show upd (A 0) 0 _ 0 = _
    exact pk_us
  · have hl : l < (sw μ).1 + 1 := hl
    show upd (A 6) (sw μ).1 (nI a) l = nI (uN (sw μ).2.1 (sw μ).1 a l) ∧ upd (A 7) (sw μ).1 (nI b) l = nI (uN (sw μ).2.2 (sw μ).1 b l)
    unfold uN
    by_cases e : l = (sw μ).1
    · subst e; rw [pk_us, pk_us, if_pos rfl, if_pos rfl]; exact ⟨rfl, rfl⟩
    · rw [pk_un e, pk_un e, if_neg e, if_neg e]; exact h.2.1.2 l (by omega)
/-- what lies behind the last book may change -/
theorem MS.beh {A A2 : sn_A2} {B : sn_B2} {μ : sn_S} (h : MS A B μ) (h0 : A2 0 = A 0) (h6 : A2 6 = A 6) (h7 : A2 7 = A 7) (hr : ∀ a, a = 8 ∨ a = 9 ∨ a = 10 ∨ a = 13 → ∀ j, j < snb μ → A2 a j = A a j) (hr2 : ∀ a, a = 11 ∨ a = 12 → ∀ j, j < 32 * snb μ → A2 a j = A a j) : MS A2 B μ := by
  refine ⟨h.1, ⟨by rw [h0]; exact h.2.1.1, fun l hl => by rw [h6, h7]; exact h.2.1.2 l hl⟩, by rw [h0]; exact h.2.2.1, fun k hk => ?_⟩
  obtain ⟨a1, a2, a3, a4, a5, a6, a7⟩ := h.2.2.2 k hk
  exact ⟨by rw [hr 8 (by omega) k hk]; exact a1, by rw [hr 9 (by omega) k hk]; exact a2, by rw [hr 10 (by omega) k hk]; exact a3, fun i hi => by rw [hr2 11 (by omega) _ (by omega)]; exact a4 i hi, fun i hi => by rw [hr2 12 (by omega) _ (by omega)]; exact a5 i hi, by rw [hr 13 (by omega) k hk]; exact a6, a7⟩
theorem MS.addB {A : sn_A2} {B : sn_B2} {μ : sn_S} (h : MS A B μ) {c : sn_Bk} {v : Int32} (h8 : snb μ < 8) (hc : WB (sw μ).1 c) (hB : MB A B (snb μ) c) (hv : v = nI (snb μ + 1)) : MS (uA A 0 (upd (A 0) 1 v)) B (addB μ c) := by
  subst hv
  refine ⟨h.1.addB h8 hc, ⟨?_, h.2.1.2⟩, ?_, fun k hk => ?_⟩
  · show upd (A 0) 1 (nI (snb μ + 1)) 0 = _
    rw [pk_un (by omega)]; exact h.2.1.1
  · show upd (A 0) 1 (nI (snb μ + 1)) 1 = nI (snb μ + 1)
    exact pk_us
  · have hk : k < snb μ + 1 := hk
    show MB _ B k (if k = snb μ then c else sbk μ k)
    by_cases e : k = snb μ
    · subst e; rw [if_pos rfl]; exact hB
    · rw [if_neg e]; exact h.2.2.2 k (by omega)
/-- the new book, as far as it is written -/
def NB (A : sn_A2) (n i : Nat) (c : sn_Bk) : Prop := A 8 n = nI (bk c) ∧ A 9 n = nI (bm c) ∧ A 10 n = nI (bl c) ∧ A 13 n = nI 0 ∧ ∀ j, j < i → A 11 (32 * n + j) = nI (bn c j) ∧ A 12 (32 * n + j) = nI (bt c j)
theorem NB.mb {A : sn_A2} {B : sn_B2} {n : Nat} {c : sn_Bk} (h : NB A n 32 c) (h0 : bc c = 0) : MB A B n c := ⟨h.1, h.2.1, h.2.2.1, fun i hi => (h.2.2.2.2 i hi).1, fun i hi => (h.2.2.2.2 i hi).2, by rw [h0]; exact h.2.2.2.1, fun i hi => by omega⟩
theorem NB.step {A : sn_A2} {n i : Nat} {c : sn_Bk} (h : NB A n i c) : NB (uA (uA A 11 (upd (A 11) (32 * n + i) (nI (bn c i)))) 12 (upd (A 12) (32 * n + i) (nI (bt c i)))) n (i + 1) c := by
  refine ⟨h.1, h.2.1, h.2.2.1, h.2.2.2.1, fun j hj => ?_⟩
  show upd (A 11) _ _ _ = _ ∧ upd (A 12) _ _ _ = _
  by_cases e : j = i
  · subst e; exact ⟨pk_us, pk_us⟩
  · rw [pk_un (by omega), pk_un (by omega)]; exact h.2.2.2.2 j (by omega)
theorem MS.step2 {A : sn_A2} {B : sn_B2} {μ : sn_S} (h : MS A B μ) (i : Nat) (u v : Int32) : MS (uA (uA A 11 (upd (A 11) (32 * snb μ + i) u)) 12 (upd (A 12) (32 * snb μ + i) v)) B μ := by
  refine h.beh rfl rfl rfl (fun a ha j hj => ?_) (fun a ha j hj => ?_)
  · rcases ha with rfl | rfl | rfl | rfl <;> rfl
  · rcases ha with rfl | rfl
    · show upd (A 11) _ _ j = _
      exact pk_un (by omega)
    · show upd (A 12) _ _ j = _
      exact pk_un (by omega)
/-- the heads of a new book -/
def hdA (A : sn_A2) (n : Nat) (a b c : Int32) : sn_A2 := uA (uA (uA (uA A 8 (upd (A 8) n a)) 9 (upd (A 9) n b)) 10 (upd (A 10) n c)) 13 (upd (A 13) n (nI 0))
theorem MS.head {A : sn_A2} {B : sn_B2} {μ : sn_S} (h : MS A B μ) (a b c : Int32) : MS (hdA A (snb μ) a b c) B μ := by
  refine h.beh rfl rfl rfl (fun r hr j hj => ?_) (fun r hr j hj => ?_)
  · rcases hr with rfl | rfl | rfl | rfl
    · exact pk_un (f := A 8) (by omega)
    · exact pk_un (f := A 9) (by omega)
    · exact pk_un (f := A 10) (by omega)
    · exact pk_un (f := A 13) (by omega)
  · rcases hr with rfl | rfl <;> rfl
theorem NB.head {A : sn_A2} {n : Nat} {c : sn_Bk} : NB (hdA A n (nI (bk c)) (nI (bm c)) (nI (bl c))) n 0 c := ⟨pk_us (f := A 8), pk_us (f := A 9), pk_us (f := A 10), pk_us (f := A 13), fun j hj => absurd hj (by omega)⟩
theorem p_M_law (d : Nat) (x : sn_X5) {A : sn_A2} {B : sn_B2} (t : sn_H) {μ : sn_S} (q : MS A B μ) (av bv : Int32) : SpP (d + 1) me_M_law [.ref 5, .int av, .int bv] (hp x A B t) (PMi x t (an_law μ av bv)) := by
  refine SpP.of ok_M_law (fun r h' z => z.rc) rfl ?_
  have h8 := q.1.1.1
  refine EvP.s (fun _ _ K => Ev.go 4 rfl K) ?_
  refine EvP.s (fun _ _ K => Ev.cs (E' := me_M_within) rfl mk_M_within ls_1_77 rfl rfl (e_M_withinI d _ _ (l := 1) (u := 36) rfl rfl) K) ?_
  refine EvP.zb rfl rfl (fun c9 => ?_) (fun c9 => ?_)
  · refine EvP.s (fun _ _ K => Ev.go 1 rfl K) ?_
    refine ⟨_, _, Ev.reti rfl rfl, ?_⟩
    refine PMi.mk q ?_
    unfold an_law
    rw [if_pos (fun z => ofn c9 z.1)]
  refine EvP.s (fun _ _ K => Ev.go 4 rfl K) ?_
  refine EvP.s (fun _ _ K => Ev.cs (E' := me_M_within) rfl mk_M_within ls_1_77 rfl rfl (e_M_within0 d _ _ (n := 37) rfl) K) ?_
  refine EvP.zn rfl rfl (fun c21 => ?_) (fun c21 => ?_)
  · obtain ⟨a, ha, ha2, rfl⟩ := rg_ex (x := av) (n := 37) ⟨by have := ofd c9; omega, by have := ofd c9; omega⟩
    have ha3 := ofd c9
    rw [nI_toInt ha2] at ha3
    obtain ⟨b, hb, hb2, rfl⟩ := rg_ex (ofd c21)
    have hu : an_law μ (nI a) (nI b) = if (sw μ).1 = 8 then (- nI 104, μ) else (nI (sw μ).1, addL μ a b) := by
      unfold an_law
      rw [if_neg (fun z => z ⟨ofd c9, ofd c21⟩), tn_nI ha2, tn_nI hb2]
    rw [hu]
    refine EvP.s (fun _ _ K => Ev.go 1 rfl K) ?_
    refine EvP.s (fun _ _ K => Ev.gf rfl lf_1_83_1 hp_5 rfl K) ?_
    refine EvP.s (fun _ _ K => Ev.go 1 rfl K) ?_
    refine EvP.ine rfl (q.2.1.1) rfl (by omega) (by omega) (fun c33 => ?_) (fun c33 => ?_)
    · refine EvP.s (fun _ _ K => Ev.go 1 rfl K) ?_
      refine EvP.s (fun _ _ K => Ev.gf rfl lf_1_7_1 hp_5 rfl K) ?_
      refine EvP.s (fun _ _ K => Ev.go 1 rfl K) ?_
      refine EvP.s (fun _ _ K => Ev.gf rfl lf_1_83_1 hp_5 rfl K) ?_
      refine EvP.s (fun _ _ K => Ev.go 1 rfl K) ?_
      refine EvP.s (fun _ _ K => Ev.isn rfl hp_6 (q.2.1.1) (by omega) (by omega) K) ?_
      rw [hps_6]
      refine EvP.s (fun _ _ K => Ev.go 1 rfl K) ?_
      refine EvP.s (fun _ _ K => Ev.gf rfl lf_1_13_1 hp_5 rfl K) ?_
      refine EvP.s (fun _ _ K => Ev.go 1 rfl K) ?_
      refine EvP.s (fun _ _ K => Ev.gf rfl lf_1_83_1 hp_5 rfl K) ?_
      refine EvP.s (fun _ _ K => Ev.go 1 rfl K) ?_
      refine EvP.s (fun _ _ K => Ev.isn rfl hp_7 (q.2.1.1) (by omega) (by omega) K) ?_
      rw [hps_7]
      refine EvP.s (fun _ _ K => Ev.go 2 rfl K) ?_
      refine EvP.s (fun _ _ K => Ev.gf rfl lf_1_83_1 hp_5 rfl K) ?_
      refine EvP.s (fun _ _ K => Ev.go 2 rfl K) ?_
      refine EvP.s (fun _ _ K => Ev.pf rfl lp_M_law_83_1 hp_5 rfl rfl K) ?_
      rw [hps_laws]
      have hM := q.addL (a := a) (b := b) (v := A 0 0 + nI 1) (by omega) (by omega) (by omega) (by rw [q.2.1.1, nI_add])
      refine EvP.s (fun _ _ K => Ev.go 1 rfl K) ?_
      refine EvP.s (fun _ _ K => Ev.gf rfl lf_1_83_1 hp_5 rfl K) ?_
      refine EvP.s (fun _ _ K => Ev.go 2 rfl K) ?_
      refine ⟨_, _, Ev.reti rfl rfl, ?_⟩
      refine PMi.mk hM ?_
      rw [if_neg c33]
      congr 1
      show upd (A 0) 0 (A 0 0 + nI 1) 0 - nI 1 = _
      rw [pk_us, q.2.1.1, nI_add, pk_sub (by omega)]
      rfl
    refine EvP.s (fun _ _ K => Ev.go 1 rfl K) ?_
    refine ⟨_, _, Ev.reti rfl rfl, ?_⟩
    refine PMi.mk q ?_
    rw [if_pos c33]
  refine EvP.s (fun _ _ K => Ev.go 1 rfl K) ?_
  refine ⟨_, _, Ev.reti rfl rfl, ?_⟩
  refine PMi.mk q ?_
  unfold an_law
  rw [if_pos (fun z => ofn c21 z.2)]
theorem sh_dec : ∀ n, n < 9 → ((nI 1 <<< (nI n &&& 31)) - nI 1).toInt64.toInt + 1 = ((2 ^ n : Nat) : Int) := by decide +kernel
theorem jn_le {s : Bool} {a b n : Nat} (ha : a ≤ n) (hb : b ≤ n) : jn s a b ≤ n := by unfold jn; split <;> omega
theorem WB.nbk {n kd m l : Nat} (h1 : kd ≤ 5) (h2 : (if kd = 4 then 3 else 2) ≤ m) (h3 : m ≤ 32) (h4 : l < 2 ^ n) (h5 : fitb kd (pcnt l) = true) : WB n (nbk kd m l) := by
  have h6 : (if kd = 3 then pcnt l = 2 else if kd = 4 then pcnt l = 3 else (1 ≤ pcnt l ∧ pcnt l ≤ 3)) := by
    unfold fitb at h5
    by_cases e3 : kd = 3
    · rw [if_pos e3] at h5 ⊢; exact ofd h5
    · rw [if_neg e3] at h5 ⊢
      by_cases e4 : kd = 4
      · rw [if_pos e4] at h5 ⊢; exact ofd h5
      · rw [if_neg e4] at h5 ⊢; exact ofd h5
  refine ⟨h1, ⟨?_, h3⟩, fun e => ?_, h4, ?_, fun e => ?_, fun e => ?_, fun _ => Nat.zero_le _, fun _ _ => rfl, fun _ => Nat.zero_le _, Nat.zero_le _, fun _ => by show 0 < 2 ^ 32; omega⟩
  · show 2 ≤ m; split at h2 <;> omega
  · have e : kd = 4 := e
    rw [if_pos e] at h2; exact h2
  · show 1 ≤ pcnt l ∧ pcnt l ≤ 3
    split at h6
    · omega
    · split at h6 <;> omega
  · have e : kd = 3 := e
    rw [if_pos e] at h6; exact h6
  · have e : kd = 4 := e
    rw [if_neg (by omega), if_pos e] at h6; exact h6
theorem WB.jnb {n : Nat} {a b : sn_Bk} {s : Bool} (ha : WB n a) (hb : WB n b) (h0 : bk a = 0 ∨ bk a = 2) (hm : bm a = bm b) : WB n (jnb s a b) := by
  refine ⟨ha.1, ha.2.1, ha.2.2.1, ha.2.2.2.1, ha.2.2.2.2.1, ha.2.2.2.2.2.1, ha.2.2.2.2.2.2.1, fun i => jn_le (ha.2.2.2.2.2.2.2.1 i) (hb.2.2.2.2.2.2.2.1 i), fun i hi => ?_, fun i => jn_le (ha.2.2.2.2.2.2.2.2.2.1 i) (hb.2.2.2.2.2.2.2.2.2.1 i), Nat.zero_le _, fun _ => by show 0 < 2 ^ 32; omega⟩
  have hi : bm a ≤ i := hi
  show jn s (bn a i) (bn b i) = 0
  rw [ha.2.2.2.2.2.2.2.2.1 i hi, hb.2.2.2.2.2.2.2.2.1 i (by omega)]
  unfold jn; split <;> rfl
theorem WB.hlv {n : Nat} {b : sn_Bk} (h : WB n b) (h2 : 2 ≤ bm b / 2) : WB n (hlv b) := by
  have hm := h.2.1
  refine ⟨Nat.zero_le _, ⟨h2, by show bm b / 2 ≤ 32; omega⟩, fun e => absurd e (by show ¬ 0 = 4; omega), h.2.2.2.1, h.2.2.2.2.1, fun e => absurd e (by show ¬ 0 = 3; omega), fun e => absurd e (by show ¬ 0 = 4; omega), fun i => ?_, fun i hi => ?_, h.2.2.2.2.2.2.2.2.2.1, Nat.zero_le _, fun _ => by show 0 < 2 ^ 32; omega⟩
  · show (if i < bm b / 2 then max (bn b i) (bn b (bm b / 2 + i)) else 0) ≤ 7
    have h3 := h.2.2.2.2.2.2.2.1 i
    have h4 := h.2.2.2.2.2.2.2.1 (bm b / 2 + i)
    split <;> omega
  · have hi : bm b / 2 ≤ i := hi
    show (if i < bm b / 2 then max (bn b i) (bn b (bm b / 2 + i)) else 0) = 0
    rw [if_neg (by omega)]
theorem p_M_book (d : Nat) (x : sn_X5) {A : sn_A2} {B : sn_B2} (t : sn_H) {μ : sn_S} (q : MS A B μ) (kv mv lv : Int32) : SpP (d + 2) me_M_book [.ref 5, .int kv, .int mv, .int lv] (hp x A B t) (PMi x t (an_book μ kv mv lv)) := by
  refine SpP.of ok_M_book (fun r h' z => z.rc) rfl ?_
  have hw8 := q.1.1.1
  refine EvP.s (fun _ _ K => Ev.go 4 rfl K) ?_
  refine EvP.s (fun _ _ K => Ev.cs (E' := me_M_within) rfl mk_M_within ls_1_77 rfl rfl (e_M_within0 (d + 1) _ _ (n := 6) rfl) K) ?_
  refine EvP.zb rfl rfl (fun c9 => ?_) (fun c9 => ?_)
  · refine EvP.s (fun _ _ K => Ev.go 1 rfl K) ?_
    refine ⟨_, _, Ev.reti rfl rfl, ?_⟩
    refine PMi.mk q ?_
    unfold an_book
    rw [if_pos (fun z => ofn c9 z.1)]
  refine EvP.s (fun _ _ K => Ev.go 4 rfl K) ?_
  refine EvP.brn rfl rfl (fun c16 => ?_) (fun c16 => ?_)
  · refine EvP.s (fun _ _ K => Ev.go 2 rfl K) ?_
    refine EvP.s (fun _ _ K => Ev.cs (E' := me_M_within) rfl mk_M_within ls_1_77 rfl rfl (e_M_withinI (d + 1) _ _ (l := 2) (u := 32) rfl rfl) K) ?_
    refine EvP.zn rfl rfl (fun c34 => ?_) (fun c34 => ?_)
    · obtain ⟨kd, hkd, hkd2, rfl⟩ := rg_ex (ofd c9)
      obtain ⟨m, hm1, hm2, rfl⟩ := rg_ex (x := mv) (n := 33) ⟨by have := ofd c34; omega, by have := ofd c34; omega⟩
      have hm3 : (if kd = 4 then 3 else 2) ≤ m ∧ m ≤ 32 := by
        have hq := ofd c34
        rw [nI_toInt hm2] at hq
        by_cases e : kd = 4
        · subst e; first | exact absurd rfl c16 | (rw [if_pos rfl]; omega)
        · rw [if_neg e]; omega
      have hu : an_book μ (nI kd) (nI m) lv = if fitb kd (manyl μ lv) = false then (- nI 101, μ) else if snb μ = 8 then (- nI 104, μ) else (nI (snb μ), addB μ (nbk kd m (tn lv))) := by
        unfold an_book
        rw [if_neg (fun z => z ⟨ofd c9, by rw [tn_nI hkd2, nI_toInt hm2]; obtain ⟨a1, a2⟩ := hm3; split at a1 <;> rename_i e <;> simp only [e, if_true, if_false] <;> omega⟩), tn_nI hkd2, tn_nI hm2]
      rw [hu]
      generalize hz0 : (if fitb kd (manyl μ lv) = false then (- nI 101, μ) else if snb μ = 8 then (- nI 104, μ) else (nI (snb μ), addB μ (nbk kd m (tn lv)))) = z
      have F : snb μ < 8 → ∀ (A : sn_A2) (c : sn_Bk), MS A B μ → NB A (snb μ) 32 c → bc c = 0 → WB (sw μ).1 c → (nI (snb μ), addB μ c) = z → ∀ (v1 v2 v3 v4 v5 v6 : Value), EvP o0 (d + 2) me_M_book 227 [.ref 5, v1, v2, v3, v4, v5, v6] [] (hp x A B t) (PMi x t z) := by
        intro h8 A c hM hN h0 hc hz v1 v2 v3 v4 v5 v6
        have hM2 := hM.addB (v := A 0 1 + nI 1) h8 hc (hN.mb h0) (by rw [hM.2.2.1, nI_add])
        refine EvP.s (fun _ _ K => Ev.go 2 rfl K) ?_
        refine EvP.s (fun _ _ K => Ev.gf rfl lf_1_120_1 hp_5 rfl K) ?_
        refine EvP.s (fun _ _ K => Ev.go 2 rfl K) ?_
        refine EvP.s (fun _ _ K => Ev.pf rfl lp_M_book_120_1 hp_5 rfl rfl K) ?_
        rw [hps_books]
        refine EvP.s (fun _ _ K => Ev.go 1 rfl K) ?_
        refine EvP.s (fun _ _ K => Ev.gf rfl lf_1_120_1 hp_5 rfl K) ?_
        refine EvP.s (fun _ _ K => Ev.go 2 rfl K) ?_
        refine ⟨_, _, Ev.reti rfl rfl, ?_⟩
        refine PMi.mk hM2 ?_
        rw [← hz]
        congr 1
        show upd (A 0) 1 (A 0 1 + nI 1) 1 - nI 1 = _
        rw [pk_us, hM.2.2.1, nI_add, pk_sub (by omega)]
        rfl
      have L : ∀ (v4 : Value) (v5 : Int32) (l : Nat), snb μ < 8 → WB (sw μ).1 (nbk kd m l) → (nI (snb μ), addB μ (nbk kd m l)) = z → ∀ (n : Nat) (A : sn_A2) (i : Nat) (iv : Int32), (i + n = 32) → (MS A B μ) → (NB A (snb μ) i (nbk kd m l)) → (iv = nI i) → EvP o0 (d + 2) me_M_book 182 [.ref 5, .int (nI kd), .int (nI m), .int (nI l), v4, .int v5, .int iv] [] (hp x A B t) (PMi x t z) := by
        intro v4 v5 l h8 hc hz n
        induction n using Nat.strongRecOn with
        | _ n ih =>
          intro A i iv h1 hM hN e3
          subst e3
          refine EvP.s (fun _ _ K => Ev.go 2 rfl K) ?_
          refine EvP.ige rfl rfl rfl (by omega) (by omega) (fun c186 => ?_) (fun c186 => ?_)
          · have e32 : i = 32 := by omega
            subst e32
            exact F h8 A _ hM hN rfl hc hz _ _ _ _ _ _
          refine EvP.s (fun _ _ K => Ev.go 1 rfl K) ?_
          refine EvP.s (fun _ _ K => Ev.gf rfl lf_1_25_1 hp_5 rfl K) ?_
          refine EvP.s (fun _ _ K => Ev.go 2 rfl K) ?_
          refine EvP.s (fun _ _ K => Ev.gf rfl lf_1_120_1 hp_5 rfl K) ?_
          refine EvP.s (fun _ _ K => Ev.go 4 rfl K) ?_
          refine EvP.s (fun _ _ K => Ev.isn rfl hp_11 (by show nI 32 * A 0 1 + nI i = _; rw [hM.2.2.1, pk_mul, nI_add]) (by omega) (by omega) K) ?_
          rw [hps_11]
          refine EvP.s (fun _ _ K => Ev.go 1 rfl K) ?_
          refine EvP.s (fun _ _ K => Ev.gf rfl lf_1_28_1 hp_5 rfl K) ?_
          refine EvP.s (fun _ _ K => Ev.go 2 rfl K) ?_
          refine EvP.s (fun _ _ K => Ev.gf rfl lf_1_120_1 hp_5 rfl K) ?_
          refine EvP.s (fun _ _ K => Ev.go 4 rfl K) ?_
          refine EvP.s (fun _ _ K => Ev.isn rfl hp_12 (by show nI 32 * A 0 1 + nI i = _; rw [hM.2.2.1, pk_mul, nI_add]) (by omega) (by omega) K) ?_
          rw [hps_12]
          refine EvP.s (fun _ _ K => Ev.go 2 rfl K) ?_
          exact ih (n - 1) (by omega) _ (i + 1) _ (by omega) (hM.step2 i _ _) (hN.step) (by rw [nI_add])
      have J2 : ∀ v : Int32, v = b2i (fitb kd (manyl μ lv)) → ∀ v4 : Int32, EvP o0 (d + 2) me_M_book 117 [.ref 5, .int (nI kd), .int (nI m), .int lv, .int v4, .retAddr 0, .retAddr 0] [.int v] (hp x A B t) (PMi x t z) := by
        intro v hv v4
        subst hv
        refine EvP.s (fun _ _ K => Ev.go 2 rfl K) ?_
        refine EvP.zn rfl rfl (fun c121 => ?_) (fun c121 => ?_)
        · have hl0 : rg lv (2 ^ (sw μ).1) := by
            by_cases e : rg lv (2 ^ (sw μ).1)
            · exact e
            · rw [show manyl μ lv = 0 from if_neg e] at c121
              unfold fitb at c121
              split at c121
              · cases c121
              · split at c121 <;> cases c121
          obtain ⟨l, hl, hl2, rfl⟩ := rg_ex hl0
          have hml : manyl μ (nI l) = pcnt l := by unfold manyl; rw [if_pos hl0, tn_nI hl2]
          rw [hml] at c121 hz0
          rw [tn_nI hl2] at hz0
          have h8a := q.1.2.1
          refine EvP.s (fun _ _ K => Ev.go 1 rfl K) ?_
          refine EvP.s (fun _ _ K => Ev.gf rfl lf_1_120_1 hp_5 rfl K) ?_
          refine EvP.s (fun _ _ K => Ev.go 1 rfl K) ?_
          refine EvP.ine rfl q.2.2.1 rfl (by have := q.1.2.1; omega) (by omega) (fun c133 => ?_) (fun c133 => ?_)
          · refine EvP.s (fun _ _ K => Ev.go 1 rfl K) ?_
            refine EvP.s (fun _ _ K => Ev.gf rfl lf_1_16_1 hp_5 rfl K) ?_
            refine EvP.s (fun _ _ K => Ev.go 1 rfl K) ?_
            refine EvP.s (fun _ _ K => Ev.gf rfl lf_1_120_1 hp_5 rfl K) ?_
            refine EvP.s (fun _ _ K => Ev.go 1 rfl K) ?_
            refine EvP.s (fun _ _ K => Ev.isn rfl hp_8 q.2.2.1 (by omega) (by omega) K) ?_
            rw [hps_8]
            refine EvP.s (fun _ _ K => Ev.go 1 rfl K) ?_
            refine EvP.s (fun _ _ K => Ev.gf rfl lf_1_19_1 hp_5 rfl K) ?_
            refine EvP.s (fun _ _ K => Ev.go 1 rfl K) ?_
            refine EvP.s (fun _ _ K => Ev.gf rfl lf_1_120_1 hp_5 rfl K) ?_
            refine EvP.s (fun _ _ K => Ev.go 1 rfl K) ?_
            refine EvP.s (fun _ _ K => Ev.isn rfl hp_9 q.2.2.1 (by omega) (by omega) K) ?_
            rw [hps_9]
            refine EvP.s (fun _ _ K => Ev.go 1 rfl K) ?_
            refine EvP.s (fun _ _ K => Ev.gf rfl lf_1_22_1 hp_5 rfl K) ?_
            refine EvP.s (fun _ _ K => Ev.go 1 rfl K) ?_
            refine EvP.s (fun _ _ K => Ev.gf rfl lf_1_120_1 hp_5 rfl K) ?_
            refine EvP.s (fun _ _ K => Ev.go 1 rfl K) ?_
            refine EvP.s (fun _ _ K => Ev.isn rfl hp_10 q.2.2.1 (by omega) (by omega) K) ?_
            rw [hps_10]
            refine EvP.s (fun _ _ K => Ev.go 1 rfl K) ?_
            refine EvP.s (fun _ _ K => Ev.gf rfl lf_1_31_1 hp_5 rfl K) ?_
            refine EvP.s (fun _ _ K => Ev.go 1 rfl K) ?_
            refine EvP.s (fun _ _ K => Ev.gf rfl lf_1_120_1 hp_5 rfl K) ?_
            refine EvP.s (fun _ _ K => Ev.go 1 rfl K) ?_
            refine EvP.s (fun _ _ K => Ev.isn rfl hp_13 q.2.2.1 (by omega) (by omega) K) ?_
            rw [hps_13]
            refine EvP.s (fun _ _ K => Ev.go 2 rfl K) ?_
            have hz1 := hz0
            rw [if_neg (by rw [c121]; decide), if_neg c133] at hz1
            exact L _ _ l (by omega) (WB.nbk (by omega) hm3.1 hm3.2 hl c121) hz1 32 (hdA A (snb μ) (nI kd) (nI m) (nI l)) 0 _ (by omega) (q.head _ _ _) (NB.head (c := nbk kd m l)) rfl
          refine EvP.s (fun _ _ K => Ev.go 1 rfl K) ?_
          refine ⟨_, _, Ev.reti rfl rfl, ?_⟩
          refine PMi.mk q ?_
          rw [← hz0, if_neg (by rw [c121]; decide), if_pos c133]
        refine EvP.s (fun _ _ K => Ev.go 1 rfl K) ?_
        refine ⟨_, _, Ev.reti rfl rfl, ?_⟩
        refine PMi.mk q ?_
        rw [← hz0, if_pos c121]
      have J : ∀ v : Int32, v = nI (manyl μ lv) → EvP o0 (d + 2) me_M_book 67 [.ref 5, .int (nI kd), .int (nI m), .int lv, .retAddr 0, .retAddr 0, .retAddr 0] [.int v] (hp x A B t) (PMi x t z) := by
        intro v hv
        subst hv
        have hmy : manyl μ lv ≤ 31 := by
          unfold manyl
          split
          · rename_i e
            obtain ⟨l, hl, hl2, rfl⟩ := rg_ex e
            rw [tn_nI hl2]
            exact pcnt_le (k := 31) (by omega)
          · omega
        refine EvP.s (fun _ _ K => Ev.go 3 rfl K) ?_
        refine EvP.ine rfl rfl rfl (by omega) (by omega) (fun c71 => ?_) (fun c71 => ?_)
        · refine EvP.s (fun _ _ K => Ev.go 2 rfl K) ?_
          refine EvP.ine rfl rfl rfl (by omega) (by omega) (fun c90 => ?_) (fun c90 => ?_)
          · refine EvP.s (fun _ _ K => Ev.go 4 rfl K) ?_
            refine EvP.s (fun _ _ K => Ev.cs (E' := me_M_within) rfl mk_M_within ls_1_77 rfl rfl (e_M_withinI (d + 1) _ _ (l := 1) (u := 3) rfl rfl) K) ?_
            exact J2 _ (by unfold fitb; rw [if_neg c71, if_neg c90, nI_toInt (by omega)]; congr 1; apply decide_eq_decide.mpr; omega) _
          refine EvP.s (fun _ _ K => Ev.go 2 rfl K) ?_
          refine EvP.ine rfl rfl rfl (by omega) (by omega) (fun c96 => ?_) (fun c96 => ?_)
          · refine EvP.s (fun _ _ K => Ev.go 2 rfl K) ?_
            exact J2 _ (by unfold fitb; rw [if_neg c71, if_pos c90]; first | exact b2i_dt c96 | exact b2i_df c96) _
          refine EvP.s (fun _ _ K => Ev.go 2 rfl K) ?_
          exact J2 _ (by unfold fitb; rw [if_neg c71, if_pos c90]; first | exact b2i_dt c96 | exact b2i_df c96) _
        refine EvP.s (fun _ _ K => Ev.go 2 rfl K) ?_
        refine EvP.ine rfl rfl rfl (by omega) (by omega) (fun c77 => ?_) (fun c77 => ?_)
        · refine EvP.s (fun _ _ K => Ev.go 2 rfl K) ?_
          exact J2 _ (by unfold fitb; rw [if_pos c71]; first | exact b2i_dt c77 | exact b2i_df c77) _
        refine EvP.s (fun _ _ K => Ev.go 2 rfl K) ?_
        exact J2 _ (by unfold fitb; rw [if_pos c71]; first | exact b2i_dt c77 | exact b2i_df c77) _
      refine EvP.s (fun _ _ K => Ev.go 5 rfl K) ?_
      refine EvP.s (fun _ _ K => Ev.gf rfl lf_1_83_1 hp_5 rfl K) ?_
      refine EvP.s (fun _ _ K => Ev.go 4 rfl K) ?_
      refine EvP.s (fun _ _ K => Ev.cs (E' := me_M_within) rfl mk_M_within ls_1_77 rfl rfl (e_M_within0 (d + 1) _ _ (n := 2 ^ (sw μ).1) (by rw [q.2.1.1]; exact sh_dec _ (by omega))) K) ?_
      refine EvP.zb rfl rfl (fun c55 => ?_) (fun c55 => ?_)
      · refine EvP.s (fun _ _ K => Ev.go 1 rfl K) ?_
        exact J _ (by unfold manyl; rw [if_neg (ofn c55)])
      obtain ⟨l, hl, hl2, rfl⟩ := rg_ex (ofd c55)
      refine EvP.s (fun _ _ K => Ev.go 2 rfl K) ?_
      refine EvP.s (fun _ _ K => Ev.cs (E' := me_M_ones) rfl mk_M_ones ls_1_127 rfl rfl (e_M_ones (d + 1) _ (nI_l hl2) (by have : 2 ^ (sw μ).1 ≤ 2 ^ 8 := Nat.pow_le_pow_right (by omega) hw8; omega)) K) ?_
      refine EvP.s (fun _ _ K => Ev.go 1 rfl K) ?_
      exact J _ (by unfold manyl; rw [if_pos (ofd c55), tn_nI hl2])
    refine EvP.s (fun _ _ K => Ev.go 1 rfl K) ?_
    refine ⟨_, _, Ev.reti rfl rfl, ?_⟩
    refine PMi.mk q ?_
    unfold an_book
    rw [if_pos (fun z => ofn c34 (by have h1 := z.2; rw [if_neg (fun e => c16 (by obtain ⟨k, _, h2, rfl⟩ := rg_ex (ofd c9); rw [tn_nI h2] at e; rw [e]))] at h1; exact h1))]
  refine EvP.s (fun _ _ K => Ev.go 2 rfl K) ?_
  refine EvP.s (fun _ _ K => Ev.go 1 rfl K) ?_
  refine EvP.s (fun _ _ K => Ev.cs (E' := me_M_within) rfl mk_M_within ls_1_77 rfl rfl (e_M_withinI (d + 1) _ _ (l := 3) (u := 32) rfl rfl) K) ?_
  refine EvP.zn rfl rfl (fun c34 => ?_) (fun c34 => ?_)
  · obtain ⟨kd, hkd, hkd2, rfl⟩ := rg_ex (ofd c9)
    obtain ⟨m, hm1, hm2, rfl⟩ := rg_ex (x := mv) (n := 33) ⟨by have := ofd c34; omega, by have := ofd c34; omega⟩
    have hm3 : (if kd = 4 then 3 else 2) ≤ m ∧ m ≤ 32 := by
      have hq := ofd c34
      rw [nI_toInt hm2] at hq
      by_cases e : kd = 4
      · subst e; first | exact absurd rfl c16 | (rw [if_pos rfl]; omega)
      · rw [if_neg e]; omega
    have hu : an_book μ (nI kd) (nI m) lv = if fitb kd (manyl μ lv) = false then (- nI 101, μ) else if snb μ = 8 then (- nI 104, μ) else (nI (snb μ), addB μ (nbk kd m (tn lv))) := by
      unfold an_book
      rw [if_neg (fun z => z ⟨ofd c9, by rw [tn_nI hkd2, nI_toInt hm2]; obtain ⟨a1, a2⟩ := hm3; split at a1 <;> rename_i e <;> simp only [e, if_true, if_false] <;> omega⟩), tn_nI hkd2, tn_nI hm2]
    rw [hu]
    generalize hz0 : (if fitb kd (manyl μ lv) = false then (- nI 101, μ) else if snb μ = 8 then (- nI 104, μ) else (nI (snb μ), addB μ (nbk kd m (tn lv)))) = z
    have F : snb μ < 8 → ∀ (A : sn_A2) (c : sn_Bk), MS A B μ → NB A (snb μ) 32 c → bc c = 0 → WB (sw μ).1 c → (nI (snb μ), addB μ c) = z → ∀ (v1 v2 v3 v4 v5 v6 : Value), EvP o0 (d + 2) me_M_book 227 [.ref 5, v1, v2, v3, v4, v5, v6] [] (hp x A B t) (PMi x t z) := by
      intro h8 A c hM hN h0 hc hz v1 v2 v3 v4 v5 v6
      have hM2 := hM.addB (v := A 0 1 + nI 1) h8 hc (hN.mb h0) (by rw [hM.2.2.1, nI_add])
      refine EvP.s (fun _ _ K => Ev.go 2 rfl K) ?_
      refine EvP.s (fun _ _ K => Ev.gf rfl lf_1_120_1 hp_5 rfl K) ?_
      refine EvP.s (fun _ _ K => Ev.go 2 rfl K) ?_
      refine EvP.s (fun _ _ K => Ev.pf rfl lp_M_book_120_1 hp_5 rfl rfl K) ?_
      rw [hps_books]
      refine EvP.s (fun _ _ K => Ev.go 1 rfl K) ?_
      refine EvP.s (fun _ _ K => Ev.gf rfl lf_1_120_1 hp_5 rfl K) ?_
      refine EvP.s (fun _ _ K => Ev.go 2 rfl K) ?_
      refine ⟨_, _, Ev.reti rfl rfl, ?_⟩
      refine PMi.mk hM2 ?_
      rw [← hz]
      congr 1
      show upd (A 0) 1 (A 0 1 + nI 1) 1 - nI 1 = _
      rw [pk_us, hM.2.2.1, nI_add, pk_sub (by omega)]
      rfl
    have L : ∀ (v4 : Value) (v5 : Int32) (l : Nat), snb μ < 8 → WB (sw μ).1 (nbk kd m l) → (nI (snb μ), addB μ (nbk kd m l)) = z → ∀ (n : Nat) (A : sn_A2) (i : Nat) (iv : Int32), (i + n = 32) → (MS A B μ) → (NB A (snb μ) i (nbk kd m l)) → (iv = nI i) → EvP o0 (d + 2) me_M_book 182 [.ref 5, .int (nI kd), .int (nI m), .int (nI l), v4, .int v5, .int iv] [] (hp x A B t) (PMi x t z) := by
      intro v4 v5 l h8 hc hz n
      induction n using Nat.strongRecOn with
      | _ n ih =>
        intro A i iv h1 hM hN e3
        subst e3
        refine EvP.s (fun _ _ K => Ev.go 2 rfl K) ?_
        refine EvP.ige rfl rfl rfl (by omega) (by omega) (fun c186 => ?_) (fun c186 => ?_)
        · have e32 : i = 32 := by omega
          subst e32
          exact F h8 A _ hM hN rfl hc hz _ _ _ _ _ _
        refine EvP.s (fun _ _ K => Ev.go 1 rfl K) ?_
        refine EvP.s (fun _ _ K => Ev.gf rfl lf_1_25_1 hp_5 rfl K) ?_
        refine EvP.s (fun _ _ K => Ev.go 2 rfl K) ?_
        refine EvP.s (fun _ _ K => Ev.gf rfl lf_1_120_1 hp_5 rfl K) ?_
        refine EvP.s (fun _ _ K => Ev.go 4 rfl K) ?_
        refine EvP.s (fun _ _ K => Ev.isn rfl hp_11 (by show nI 32 * A 0 1 + nI i = _; rw [hM.2.2.1, pk_mul, nI_add]) (by omega) (by omega) K) ?_
        rw [hps_11]
        refine EvP.s (fun _ _ K => Ev.go 1 rfl K) ?_
        refine EvP.s (fun _ _ K => Ev.gf rfl lf_1_28_1 hp_5 rfl K) ?_
        refine EvP.s (fun _ _ K => Ev.go 2 rfl K) ?_
        refine EvP.s (fun _ _ K => Ev.gf rfl lf_1_120_1 hp_5 rfl K) ?_
        refine EvP.s (fun _ _ K => Ev.go 4 rfl K) ?_
        refine EvP.s (fun _ _ K => Ev.isn rfl hp_12 (by show nI 32 * A 0 1 + nI i = _; rw [hM.2.2.1, pk_mul, nI_add]) (by omega) (by omega) K) ?_
        rw [hps_12]
        refine EvP.s (fun _ _ K => Ev.go 2 rfl K) ?_
        exact ih (n - 1) (by omega) _ (i + 1) _ (by omega) (hM.step2 i _ _) (hN.step) (by rw [nI_add])
    have J2 : ∀ v : Int32, v = b2i (fitb kd (manyl μ lv)) → ∀ v4 : Int32, EvP o0 (d + 2) me_M_book 117 [.ref 5, .int (nI kd), .int (nI m), .int lv, .int v4, .retAddr 0, .retAddr 0] [.int v] (hp x A B t) (PMi x t z) := by
      intro v hv v4
      subst hv
      refine EvP.s (fun _ _ K => Ev.go 2 rfl K) ?_
      refine EvP.zn rfl rfl (fun c121 => ?_) (fun c121 => ?_)
      · have hl0 : rg lv (2 ^ (sw μ).1) := by
          by_cases e : rg lv (2 ^ (sw μ).1)
          · exact e
          · rw [show manyl μ lv = 0 from if_neg e] at c121
            unfold fitb at c121
            split at c121
            · cases c121
            · split at c121 <;> cases c121
        obtain ⟨l, hl, hl2, rfl⟩ := rg_ex hl0
        have hml : manyl μ (nI l) = pcnt l := by unfold manyl; rw [if_pos hl0, tn_nI hl2]
        rw [hml] at c121 hz0
        rw [tn_nI hl2] at hz0
        have h8a := q.1.2.1
        refine EvP.s (fun _ _ K => Ev.go 1 rfl K) ?_
        refine EvP.s (fun _ _ K => Ev.gf rfl lf_1_120_1 hp_5 rfl K) ?_
        refine EvP.s (fun _ _ K => Ev.go 1 rfl K) ?_
        refine EvP.ine rfl q.2.2.1 rfl (by have := q.1.2.1; omega) (by omega) (fun c133 => ?_) (fun c133 => ?_)
        · refine EvP.s (fun _ _ K => Ev.go 1 rfl K) ?_
          refine EvP.s (fun _ _ K => Ev.gf rfl lf_1_16_1 hp_5 rfl K) ?_
          refine EvP.s (fun _ _ K => Ev.go 1 rfl K) ?_
          refine EvP.s (fun _ _ K => Ev.gf rfl lf_1_120_1 hp_5 rfl K) ?_
          refine EvP.s (fun _ _ K => Ev.go 1 rfl K) ?_
          refine EvP.s (fun _ _ K => Ev.isn rfl hp_8 q.2.2.1 (by omega) (by omega) K) ?_
          rw [hps_8]
          refine EvP.s (fun _ _ K => Ev.go 1 rfl K) ?_
          refine EvP.s (fun _ _ K => Ev.gf rfl lf_1_19_1 hp_5 rfl K) ?_
          refine EvP.s (fun _ _ K => Ev.go 1 rfl K) ?_
          refine EvP.s (fun _ _ K => Ev.gf rfl lf_1_120_1 hp_5 rfl K) ?_
          refine EvP.s (fun _ _ K => Ev.go 1 rfl K) ?_
          refine EvP.s (fun _ _ K => Ev.isn rfl hp_9 q.2.2.1 (by omega) (by omega) K) ?_
          rw [hps_9]
          refine EvP.s (fun _ _ K => Ev.go 1 rfl K) ?_
          refine EvP.s (fun _ _ K => Ev.gf rfl lf_1_22_1 hp_5 rfl K) ?_
          refine EvP.s (fun _ _ K => Ev.go 1 rfl K) ?_
          refine EvP.s (fun _ _ K => Ev.gf rfl lf_1_120_1 hp_5 rfl K) ?_
          refine EvP.s (fun _ _ K => Ev.go 1 rfl K) ?_
          refine EvP.s (fun _ _ K => Ev.isn rfl hp_10 q.2.2.1 (by omega) (by omega) K) ?_
          rw [hps_10]
          refine EvP.s (fun _ _ K => Ev.go 1 rfl K) ?_
          refine EvP.s (fun _ _ K => Ev.gf rfl lf_1_31_1 hp_5 rfl K) ?_
          refine EvP.s (fun _ _ K => Ev.go 1 rfl K) ?_
          refine EvP.s (fun _ _ K => Ev.gf rfl lf_1_120_1 hp_5 rfl K) ?_
          refine EvP.s (fun _ _ K => Ev.go 1 rfl K) ?_
          refine EvP.s (fun _ _ K => Ev.isn rfl hp_13 q.2.2.1 (by omega) (by omega) K) ?_
          rw [hps_13]
          refine EvP.s (fun _ _ K => Ev.go 2 rfl K) ?_
          have hz1 := hz0
          rw [if_neg (by rw [c121]; decide), if_neg c133] at hz1
          exact L _ _ l (by omega) (WB.nbk (by omega) hm3.1 hm3.2 hl c121) hz1 32 (hdA A (snb μ) (nI kd) (nI m) (nI l)) 0 _ (by omega) (q.head _ _ _) (NB.head (c := nbk kd m l)) rfl
        refine EvP.s (fun _ _ K => Ev.go 1 rfl K) ?_
        refine ⟨_, _, Ev.reti rfl rfl, ?_⟩
        refine PMi.mk q ?_
        rw [← hz0, if_neg (by rw [c121]; decide), if_pos c133]
      refine EvP.s (fun _ _ K => Ev.go 1 rfl K) ?_
      refine ⟨_, _, Ev.reti rfl rfl, ?_⟩
      refine PMi.mk q ?_
      rw [← hz0, if_pos c121]
    have J : ∀ v : Int32, v = nI (manyl μ lv) → EvP o0 (d + 2) me_M_book 67 [.ref 5, .int (nI kd), .int (nI m), .int lv, .retAddr 0, .retAddr 0, .retAddr 0] [.int v] (hp x A B t) (PMi x t z) := by
      intro v hv
      subst hv
      have hmy : manyl μ lv ≤ 31 := by
        unfold manyl
        split
        · rename_i e
          obtain ⟨l, hl, hl2, rfl⟩ := rg_ex e
          rw [tn_nI hl2]
          exact pcnt_le (k := 31) (by omega)
        · omega
      refine EvP.s (fun _ _ K => Ev.go 3 rfl K) ?_
      refine EvP.ine rfl rfl rfl (by omega) (by omega) (fun c71 => ?_) (fun c71 => ?_)
      · refine EvP.s (fun _ _ K => Ev.go 2 rfl K) ?_
        refine EvP.ine rfl rfl rfl (by omega) (by omega) (fun c90 => ?_) (fun c90 => ?_)
        · refine EvP.s (fun _ _ K => Ev.go 4 rfl K) ?_
          refine EvP.s (fun _ _ K => Ev.cs (E' := me_M_within) rfl mk_M_within ls_1_77 rfl rfl (e_M_withinI (d + 1) _ _ (l := 1) (u := 3) rfl rfl) K) ?_
          exact J2 _ (by unfold fitb; rw [if_neg c71, if_neg c90, nI_toInt (by omega)]; congr 1; apply decide_eq_decide.mpr; omega) _
        refine EvP.s (fun _ _ K => Ev.go 2 rfl K) ?_
        refine EvP.ine rfl rfl rfl (by omega) (by omega) (fun c96 => ?_) (fun c96 => ?_)
        · refine EvP.s (fun _ _ K => Ev.go 2 rfl K) ?_
          exact J2 _ (by unfold fitb; rw [if_neg c71, if_pos c90]; first | exact b2i_dt c96 | exact b2i_df c96) _
        refine EvP.s (fun _ _ K => Ev.go 2 rfl K) ?_
        exact J2 _ (by unfold fitb; rw [if_neg c71, if_pos c90]; first | exact b2i_dt c96 | exact b2i_df c96) _
      refine EvP.s (fun _ _ K => Ev.go 2 rfl K) ?_
      refine EvP.ine rfl rfl rfl (by omega) (by omega) (fun c77 => ?_) (fun c77 => ?_)
      · refine EvP.s (fun _ _ K => Ev.go 2 rfl K) ?_
        exact J2 _ (by unfold fitb; rw [if_pos c71]; first | exact b2i_dt c77 | exact b2i_df c77) _
      refine EvP.s (fun _ _ K => Ev.go 2 rfl K) ?_
      exact J2 _ (by unfold fitb; rw [if_pos c71]; first | exact b2i_dt c77 | exact b2i_df c77) _
    refine EvP.s (fun _ _ K => Ev.go 5 rfl K) ?_
    refine EvP.s (fun _ _ K => Ev.gf rfl lf_1_83_1 hp_5 rfl K) ?_
    refine EvP.s (fun _ _ K => Ev.go 4 rfl K) ?_
    refine EvP.s (fun _ _ K => Ev.cs (E' := me_M_within) rfl mk_M_within ls_1_77 rfl rfl (e_M_within0 (d + 1) _ _ (n := 2 ^ (sw μ).1) (by rw [q.2.1.1]; exact sh_dec _ (by omega))) K) ?_
    refine EvP.zb rfl rfl (fun c55 => ?_) (fun c55 => ?_)
    · refine EvP.s (fun _ _ K => Ev.go 1 rfl K) ?_
      exact J _ (by unfold manyl; rw [if_neg (ofn c55)])
    obtain ⟨l, hl, hl2, rfl⟩ := rg_ex (ofd c55)
    refine EvP.s (fun _ _ K => Ev.go 2 rfl K) ?_
    refine EvP.s (fun _ _ K => Ev.cs (E' := me_M_ones) rfl mk_M_ones ls_1_127 rfl rfl (e_M_ones (d + 1) _ (nI_l hl2) (by have : 2 ^ (sw μ).1 ≤ 2 ^ 8 := Nat.pow_le_pow_right (by omega) hw8; omega)) K) ?_
    refine EvP.s (fun _ _ K => Ev.go 1 rfl K) ?_
    exact J _ (by unfold manyl; rw [if_pos (ofd c55), tn_nI hl2])
  refine EvP.s (fun _ _ K => Ev.go 1 rfl K) ?_
  refine ⟨_, _, Ev.reti rfl rfl, ?_⟩
  refine PMi.mk q ?_
  unfold an_book
  rw [if_pos (fun z => ofn c34 (by have h1 := z.2; rw [if_pos (by rw [c16]; rfl)] at h1; exact h1))]
set_option maxRecDepth 20000 in
theorem p_M_join (d : Nat) (x : sn_X5) {A : sn_A2} {B : sn_B2} (t : sn_H) {μ : sn_S} (q : MS A B μ) (kv lv : Int32) (s : Bool) : SpP (d + 2) me_M_join [.ref 5, .int kv, .int lv, .int (b2i s)] (hp x A B t) (PMi x t (an_join μ kv lv s)) := by
  refine SpP.of ok_M_join (fun r h' z => z.rc) rfl ?_
  refine EvP.s (fun _ _ K => Ev.go 2 rfl K) ?_
  refine EvP.s (fun _ _ K => Ev.cv (E' := me_M_isBook) rfl mk_M_isBook lv_1_131_1 rfl hp_5 rfl (e_M_isBook d x t q _) K) ?_
  refine EvP.zb rfl rfl (fun c5 => ?_) (fun c5 => ?_)
  · refine EvP.s (fun _ _ K => Ev.go 1 rfl K) ?_
    refine ⟨_, _, Ev.reti rfl rfl, ?_⟩
    refine PMi.mk q ?_
    unfold an_join
    rw [if_pos (fun z => ofn c5 z.1)]
  refine EvP.s (fun _ _ K => Ev.go 2 rfl K) ?_
  refine EvP.s (fun _ _ K => Ev.cv (E' := me_M_isBook) rfl mk_M_isBook lv_1_131_1 rfl hp_5 rfl (e_M_isBook d x t q _) K) ?_
  refine EvP.zn rfl rfl (fun c13 => ?_) (fun c13 => ?_)
  · obtain ⟨k, hk, hk2, rfl⟩ := rg_ex (ofd c5)
    obtain ⟨l, hl, hl2, rfl⟩ := rg_ex (ofd c13)
    have h8a := q.1.2.1
    have m1 := q.mk hk
    have m2 := q.mk hl
    obtain ⟨a, ha⟩ : ∃ z, z = sbk μ k := ⟨_, rfl⟩
    obtain ⟨b, hb⟩ : ∃ z, z = sbk μ l := ⟨_, rfl⟩
    have hwa := m1.2.2.1
    have hwb := m2.2.2.1
    have ka := hwa.1
    have kb := hwb.1
    have ma := hwa.2.1
    have mb := hwb.2.1
    have la := hwa.bl256 q.1.1.1
    have lb := hwb.bl256 q.1.1.1
    rw [← ha] at m1 hwa ka ma la
    rw [← hb] at m2 hwb kb mb lb
    have hu : an_join μ (nI k) (nI l) s = if ¬ (bk a = bk b ∧ (bk a = 0 ∨ bk a = 2) ∧ bm a = bm b ∧ bl a = bl b) then (- nI 103, μ) else if snb μ = 8 then (- nI 104, μ) else (nI (snb μ), addB μ (jnb s a b)) := by
      unfold an_join
      rw [if_neg (fun z => z ⟨ofd c5, ofd c13⟩), tn_nI hk2, tn_nI hl2, ← ha, ← hb]
    rw [hu]
    generalize hz0 : (if ¬ (bk a = bk b ∧ (bk a = 0 ∨ bk a = 2) ∧ bm a = bm b ∧ bl a = bl b) then (- nI 103, μ) else if snb μ = 8 then (- nI 104, μ) else (nI (snb μ), addB μ (jnb s a b))) = z
    have F : snb μ < 8 → ∀ (A : sn_A2) (c : sn_Bk), MS A B μ → NB A (snb μ) 32 c → bc c = 0 → WB (sw μ).1 c → (nI (snb μ), addB μ c) = z → ∀ (v1 v2 v3 v4 v5 : Value), EvP o0 (d + 2) me_M_join 267 [.ref 5, v1, v2, v3, v4, v5] [] (hp x A B t) (PMi x t z) := by
      intro h8 A c hM hN h0 hc hz v1 v2 v3 v4 v5
      have hM2 := hM.addB (v := A 0 1 + nI 1) h8 hc (hN.mb h0) (by rw [hM.2.2.1, nI_add])
      refine EvP.s (fun _ _ K => Ev.go 2 rfl K) ?_
      refine EvP.s (fun _ _ K => Ev.gf rfl lf_1_120_1 hp_5 rfl K) ?_
      refine EvP.s (fun _ _ K => Ev.go 2 rfl K) ?_
      refine EvP.s (fun _ _ K => Ev.pf rfl lp_M_join_120_1 hp_5 rfl rfl K) ?_
      rw [hps_books]
      refine EvP.s (fun _ _ K => Ev.go 1 rfl K) ?_
      refine EvP.s (fun _ _ K => Ev.gf rfl lf_1_120_1 hp_5 rfl K) ?_
      refine EvP.s (fun _ _ K => Ev.go 2 rfl K) ?_
      refine ⟨_, _, Ev.reti rfl rfl, ?_⟩
      refine PMi.mk hM2 ?_
      rw [← hz]
      congr 1
      show upd (A 0) 1 (A 0 1 + nI 1) 1 - nI 1 = _
      rw [pk_us, hM.2.2.1, nI_add, pk_sub (by omega)]
      rfl
    have L : ∀ (v4 : Int32), snb μ < 8 → WB (sw μ).1 (jnb s a b) → (nI (snb μ), addB μ (jnb s a b)) = z → ∀ (n : Nat) (A : sn_A2) (i : Nat) (iv : Int32), (i + n = 32) → (MS A B μ) → (NB A (snb μ) i (jnb s a b)) → (iv = nI i) → EvP o0 (d + 2) me_M_join 168 [.ref 5, .int (nI k), .int (nI l), .int (b2i s), .int v4, .int iv] [] (hp x A B t) (PMi x t z) := by
      intro v4 h8 hc hz n
      induction n using Nat.strongRecOn with
      | _ n ih =>
        intro A i iv h1 hM hN e3
        subst e3
        refine EvP.s (fun _ _ K => Ev.go 2 rfl K) ?_
        refine EvP.ige rfl rfl rfl (by omega) (by omega) (fun c172 => ?_) (fun c172 => ?_)
        · have e32 : i = 32 := by omega
          subst e32
          exact F h8 A _ hM hN rfl hc hz _ _ _ _ _
        refine EvP.s (fun _ _ K => Ev.go 1 rfl K) ?_
        refine EvP.s (fun _ _ K => Ev.gf rfl lf_1_25_1 hp_5 rfl K) ?_
        refine EvP.s (fun _ _ K => Ev.go 2 rfl K) ?_
        refine EvP.s (fun _ _ K => Ev.gf rfl lf_1_120_1 hp_5 rfl K) ?_
        refine EvP.s (fun _ _ K => Ev.go 4 rfl K) ?_
        refine EvP.s (fun _ _ K => Ev.gf rfl lf_1_25_1 hp_5 rfl K) ?_
        refine EvP.s (fun _ _ K => Ev.go 5 rfl K) ?_
        refine EvP.s (fun _ _ K => Ev.iln rfl hp_11 (by rw [pk_mul, nI_add]) (by omega) (by omega) K) ?_
        rw [(hM.mk hk).2.2.2.1.2.2.2.1 i (by omega), ← ha]
        refine EvP.s (fun _ _ K => Ev.go 1 rfl K) ?_
        refine EvP.s (fun _ _ K => Ev.gf rfl lf_1_25_1 hp_5 rfl K) ?_
        refine EvP.s (fun _ _ K => Ev.go 5 rfl K) ?_
        refine EvP.s (fun _ _ K => Ev.iln rfl hp_11 (by rw [pk_mul, nI_add]) (by omega) (by omega) K) ?_
        rw [(hM.mk hl).2.2.2.1.2.2.2.1 i (by omega), ← hb]
        refine EvP.s (fun _ _ K => Ev.go 1 rfl K) ?_
        refine EvP.s (fun _ _ K => Ev.cs (E' := me_M_chosen) rfl mk_M_chosen ls_1_215 rfl rfl (e_M_chosen (d + 1) _ rfl rfl rfl (by have := hwa.2.2.2.2.2.2.2.1 i; omega) (by have := hwb.2.2.2.2.2.2.2.1 i; omega)) K) ?_
        refine EvP.s (fun _ _ K => Ev.isn rfl hp_11 (by show nI 32 * A 0 1 + nI i = _; rw [hM.2.2.1, pk_mul, nI_add]) (by omega) (by omega) K) ?_
        rw [hps_11]
        refine EvP.s (fun _ _ K => Ev.go 1 rfl K) ?_
        refine EvP.s (fun _ _ K => Ev.gf rfl lf_1_28_1 hp_5 rfl K) ?_
        refine EvP.s (fun _ _ K => Ev.go 2 rfl K) ?_
        refine EvP.s (fun _ _ K => Ev.gf rfl lf_1_120_1 hp_5 rfl K) ?_
        refine EvP.s (fun _ _ K => Ev.go 4 rfl K) ?_
        refine EvP.s (fun _ _ K => Ev.gf rfl lf_1_28_1 hp_5 rfl K) ?_
        refine EvP.s (fun _ _ K => Ev.go 5 rfl K) ?_
        refine EvP.s (fun _ _ K => Ev.iln rfl hp_12 (by rw [pk_mul, nI_add]) (by omega) (by omega) K) ?_
        rw [show ∀ f, uA A 11 f 12 (32 * k + i) = nI (bt a i) from fun f => by rw [ha]; exact (hM.mk hk).2.2.2.1.2.2.2.2.1 i (by omega)]
        refine EvP.s (fun _ _ K => Ev.go 1 rfl K) ?_
        refine EvP.s (fun _ _ K => Ev.gf rfl lf_1_28_1 hp_5 rfl K) ?_
        refine EvP.s (fun _ _ K => Ev.go 5 rfl K) ?_
        refine EvP.s (fun _ _ K => Ev.iln rfl hp_12 (by rw [pk_mul, nI_add]) (by omega) (by omega) K) ?_
        rw [show ∀ f, uA A 11 f 12 (32 * l + i) = nI (bt b i) from fun f => by rw [hb]; exact (hM.mk hl).2.2.2.1.2.2.2.2.1 i (by omega)]
        refine EvP.s (fun _ _ K => Ev.go 1 rfl K) ?_
        refine EvP.s (fun _ _ K => Ev.cs (E' := me_M_chosen) rfl mk_M_chosen ls_1_215 rfl rfl (e_M_chosen (d + 1) _ rfl rfl rfl (by have := hwa.2.2.2.2.2.2.2.2.2.1 i; omega) (by have := hwb.2.2.2.2.2.2.2.2.2.1 i; omega)) K) ?_
        refine EvP.s (fun _ _ K => Ev.isn rfl hp_12 (by show nI 32 * A 0 1 + nI i = _; rw [hM.2.2.1, pk_mul, nI_add]) (by omega) (by omega) K) ?_
        rw [hps_12]
        refine EvP.s (fun _ _ K => Ev.go 2 rfl K) ?_
        exact ih (n - 1) (by omega) _ (i + 1) _ (by omega) (hM.step2 i _ _) (hN.step) (by rw [nI_add])
    have J : ∀ v : Int32, ∀ f : Bool, v = b2i f → (f = true ↔ (bk a = bk b ∧ (bk a = 0 ∨ bk a = 2) ∧ bm a = bm b ∧ bl a = bl b)) → EvP o0 (d + 2) me_M_join 88 [.ref 5, .int (nI k), .int (nI l), .int (b2i s), .retAddr 0, .retAddr 0] [.int v] (hp x A B t) (PMi x t z) := by
      intro v f hv hf
      subst hv
      refine EvP.s (fun _ _ K => Ev.go 2 rfl K) ?_
      refine EvP.zn rfl rfl (fun c92 => ?_) (fun c92 => ?_)
      · refine EvP.s (fun _ _ K => Ev.go 1 rfl K) ?_
        refine EvP.s (fun _ _ K => Ev.gf rfl lf_1_120_1 hp_5 rfl K) ?_
        refine EvP.s (fun _ _ K => Ev.go 1 rfl K) ?_
        refine EvP.ine rfl q.2.2.1 rfl (by omega) (by omega) (fun c104 => ?_) (fun c104 => ?_)
        · refine EvP.s (fun _ _ K => Ev.go 1 rfl K) ?_
          refine EvP.s (fun _ _ K => Ev.gf rfl lf_1_16_1 hp_5 rfl K) ?_
          refine EvP.s (fun _ _ K => Ev.go 1 rfl K) ?_
          refine EvP.s (fun _ _ K => Ev.gf rfl lf_1_120_1 hp_5 rfl K) ?_
          refine EvP.s (fun _ _ K => Ev.go 1 rfl K) ?_
          refine EvP.s (fun _ _ K => Ev.gf rfl lf_1_16_1 hp_5 rfl K) ?_
          refine EvP.s (fun _ _ K => Ev.go 1 rfl K) ?_
          refine EvP.s (fun _ _ K => Ev.iln rfl hp_8 rfl (by omega) (by omega) K) ?_
          rw [m1.2.2.2.1.1]
          refine EvP.s (fun _ _ K => Ev.isn rfl hp_8 (by show A 0 1 = _; exact q.2.2.1) (by omega) (by omega) K) ?_
          rw [hps_8]
          refine EvP.s (fun _ _ K => Ev.go 1 rfl K) ?_
          refine EvP.s (fun _ _ K => Ev.gf rfl lf_1_19_1 hp_5 rfl K) ?_
          refine EvP.s (fun _ _ K => Ev.go 1 rfl K) ?_
          refine EvP.s (fun _ _ K => Ev.gf rfl lf_1_120_1 hp_5 rfl K) ?_
          refine EvP.s (fun _ _ K => Ev.go 1 rfl K) ?_
          refine EvP.s (fun _ _ K => Ev.gf rfl lf_1_19_1 hp_5 rfl K) ?_
          refine EvP.s (fun _ _ K => Ev.go 1 rfl K) ?_
          refine EvP.s (fun _ _ K => Ev.iln rfl hp_9 rfl (by omega) (by omega) K) ?_
          rw [show ∀ f, uA A 8 f 9 k = nI (bm a) from fun f => m1.2.2.2.1.2.1]
          refine EvP.s (fun _ _ K => Ev.isn rfl hp_9 (by show A 0 1 = _; exact q.2.2.1) (by omega) (by omega) K) ?_
          rw [hps_9]
          refine EvP.s (fun _ _ K => Ev.go 1 rfl K) ?_
          refine EvP.s (fun _ _ K => Ev.gf rfl lf_1_22_1 hp_5 rfl K) ?_
          refine EvP.s (fun _ _ K => Ev.go 1 rfl K) ?_
          refine EvP.s (fun _ _ K => Ev.gf rfl lf_1_120_1 hp_5 rfl K) ?_
          refine EvP.s (fun _ _ K => Ev.go 1 rfl K) ?_
          refine EvP.s (fun _ _ K => Ev.gf rfl lf_1_22_1 hp_5 rfl K) ?_
          refine EvP.s (fun _ _ K => Ev.go 1 rfl K) ?_
          refine EvP.s (fun _ _ K => Ev.iln rfl hp_10 rfl (by omega) (by omega) K) ?_
          rw [show ∀ f g, uA (uA A 8 f) 9 g 10 k = nI (bl a) from fun f g => m1.2.2.2.1.2.2.1]
          refine EvP.s (fun _ _ K => Ev.isn rfl hp_10 (by show A 0 1 = _; exact q.2.2.1) (by omega) (by omega) K) ?_
          rw [hps_10]
          refine EvP.s (fun _ _ K => Ev.go 1 rfl K) ?_
          refine EvP.s (fun _ _ K => Ev.gf rfl lf_1_31_1 hp_5 rfl K) ?_
          refine EvP.s (fun _ _ K => Ev.go 1 rfl K) ?_
          refine EvP.s (fun _ _ K => Ev.gf rfl lf_1_120_1 hp_5 rfl K) ?_
          refine EvP.s (fun _ _ K => Ev.go 1 rfl K) ?_
          refine EvP.s (fun _ _ K => Ev.isn rfl hp_13 (by show A 0 1 = _; exact q.2.2.1) (by omega) (by omega) K) ?_
          rw [hps_13]
          refine EvP.s (fun _ _ K => Ev.go 2 rfl K) ?_
          have h9 := hf.mp c92
          have hz1 := hz0
          rw [if_neg (fun z => z h9), if_neg c104] at hz1
          exact L _ (by omega) (WB.jnb hwa hwb h9.2.1 h9.2.2.1) hz1 32 (hdA A (snb μ) (nI (bk a)) (nI (bm a)) (nI (bl a))) 0 _ (by omega) (q.head _ _ _) (NB.head (c := jnb s a b)) rfl
        refine EvP.s (fun _ _ K => Ev.go 1 rfl K) ?_
        refine ⟨_, _, Ev.reti rfl rfl, ?_⟩
        refine PMi.mk q ?_
        rw [← hz0, if_neg (fun z => z (hf.mp c92)), if_pos c104]
      refine EvP.s (fun _ _ K => Ev.go 1 rfl K) ?_
      refine ⟨_, _, Ev.reti rfl rfl, ?_⟩
      refine PMi.mk q ?_
      rw [← hz0, if_pos (fun z => by rw [hf.mpr z] at c92; cases c92)]
    refine EvP.s (fun _ _ K => Ev.go 1 rfl K) ?_
    refine EvP.s (fun _ _ K => Ev.gf rfl lf_1_16_1 hp_5 rfl K) ?_
    refine EvP.s (fun _ _ K => Ev.go 1 rfl K) ?_
    refine EvP.s (fun _ _ K => Ev.iln rfl hp_8 rfl (by omega) (by omega) K) ?_
    rw [m1.2.2.2.1.1]
    refine EvP.s (fun _ _ K => Ev.go 1 rfl K) ?_
    refine EvP.s (fun _ _ K => Ev.gf rfl lf_1_16_1 hp_5 rfl K) ?_
    refine EvP.s (fun _ _ K => Ev.go 1 rfl K) ?_
    refine EvP.s (fun _ _ K => Ev.iln rfl hp_8 rfl (by omega) (by omega) K) ?_
    rw [m2.2.2.2.1.1]
    refine EvP.ine rfl rfl rfl (by omega) (by omega) (fun c31 => ?_) (fun c31 => ?_)
    · refine EvP.s (fun _ _ K => Ev.go 1 rfl K) ?_
      exact J _ false rfl (by simp; try omega)
    refine EvP.s (fun _ _ K => Ev.go 1 rfl K) ?_
    refine EvP.s (fun _ _ K => Ev.gf rfl lf_1_16_1 hp_5 rfl K) ?_
    refine EvP.s (fun _ _ K => Ev.go 1 rfl K) ?_
    refine EvP.s (fun _ _ K => Ev.iln rfl hp_8 rfl (by omega) (by omega) K) ?_
    rw [m1.2.2.2.1.1]
    refine EvP.zeq rfl rfl (by omega) (fun c40 => ?_) (fun c40 => ?_)
    · refine EvP.s (fun _ _ K => Ev.go 1 rfl K) ?_
      refine EvP.s (fun _ _ K => Ev.gf rfl lf_1_19_1 hp_5 rfl K) ?_
      refine EvP.s (fun _ _ K => Ev.go 1 rfl K) ?_
      refine EvP.s (fun _ _ K => Ev.iln rfl hp_9 rfl (by omega) (by omega) K) ?_
      rw [m1.2.2.2.1.2.1]
      refine EvP.s (fun _ _ K => Ev.go 1 rfl K) ?_
      refine EvP.s (fun _ _ K => Ev.gf rfl lf_1_19_1 hp_5 rfl K) ?_
      refine EvP.s (fun _ _ K => Ev.go 1 rfl K) ?_
      refine EvP.s (fun _ _ K => Ev.iln rfl hp_9 rfl (by omega) (by omega) K) ?_
      rw [m2.2.2.2.1.2.1]
      refine EvP.ine rfl rfl rfl (by omega) (by omega) (fun c65 => ?_) (fun c65 => ?_)
      · refine EvP.s (fun _ _ K => Ev.go 1 rfl K) ?_
        exact J _ false rfl (by simp; try omega)
      refine EvP.s (fun _ _ K => Ev.go 1 rfl K) ?_
      refine EvP.s (fun _ _ K => Ev.gf rfl lf_1_22_1 hp_5 rfl K) ?_
      refine EvP.s (fun _ _ K => Ev.go 1 rfl K) ?_
      refine EvP.s (fun _ _ K => Ev.iln rfl hp_10 rfl (by omega) (by omega) K) ?_
      rw [m1.2.2.2.1.2.2.1]
      refine EvP.s (fun _ _ K => Ev.go 1 rfl K) ?_
      refine EvP.s (fun _ _ K => Ev.gf rfl lf_1_22_1 hp_5 rfl K) ?_
      refine EvP.s (fun _ _ K => Ev.go 1 rfl K) ?_
      refine EvP.s (fun _ _ K => Ev.iln rfl hp_10 rfl (by omega) (by omega) K) ?_
      rw [m2.2.2.2.1.2.2.1]
      refine EvP.ine rfl rfl rfl (by omega) (by omega) (fun c80 => ?_) (fun c80 => ?_)
      · refine EvP.s (fun _ _ K => Ev.go 1 rfl K) ?_
        exact J _ false rfl (by simp; try omega)
      refine EvP.s (fun _ _ K => Ev.go 2 rfl K) ?_
      exact J _ true rfl (by simp; try omega)
    refine EvP.s (fun _ _ K => Ev.go 1 rfl K) ?_
    refine EvP.s (fun _ _ K => Ev.gf rfl lf_1_16_1 hp_5 rfl K) ?_
    refine EvP.s (fun _ _ K => Ev.go 1 rfl K) ?_
    refine EvP.s (fun _ _ K => Ev.iln rfl hp_8 rfl (by omega) (by omega) K) ?_
    rw [m1.2.2.2.1.1]
    refine EvP.s (fun _ _ K => Ev.go 1 rfl K) ?_
    refine EvP.ine rfl rfl rfl (by omega) (by omega) (fun c50 => ?_) (fun c50 => ?_)
    · refine EvP.s (fun _ _ K => Ev.go 1 rfl K) ?_
      exact J _ false rfl (by simp; try omega)
    refine EvP.s (fun _ _ K => Ev.go 1 rfl K) ?_
    refine EvP.s (fun _ _ K => Ev.gf rfl lf_1_19_1 hp_5 rfl K) ?_
    refine EvP.s (fun _ _ K => Ev.go 1 rfl K) ?_
    refine EvP.s (fun _ _ K => Ev.iln rfl hp_9 rfl (by omega) (by omega) K) ?_
    rw [m1.2.2.2.1.2.1]
    refine EvP.s (fun _ _ K => Ev.go 1 rfl K) ?_
    refine EvP.s (fun _ _ K => Ev.gf rfl lf_1_19_1 hp_5 rfl K) ?_
    refine EvP.s (fun _ _ K => Ev.go 1 rfl K) ?_
    refine EvP.s (fun _ _ K => Ev.iln rfl hp_9 rfl (by omega) (by omega) K) ?_
    rw [m2.2.2.2.1.2.1]
    refine EvP.ine rfl rfl rfl (by omega) (by omega) (fun c65 => ?_) (fun c65 => ?_)
    · refine EvP.s (fun _ _ K => Ev.go 1 rfl K) ?_
      exact J _ false rfl (by simp; try omega)
    refine EvP.s (fun _ _ K => Ev.go 1 rfl K) ?_
    refine EvP.s (fun _ _ K => Ev.gf rfl lf_1_22_1 hp_5 rfl K) ?_
    refine EvP.s (fun _ _ K => Ev.go 1 rfl K) ?_
    refine EvP.s (fun _ _ K => Ev.iln rfl hp_10 rfl (by omega) (by omega) K) ?_
    rw [m1.2.2.2.1.2.2.1]
    refine EvP.s (fun _ _ K => Ev.go 1 rfl K) ?_
    refine EvP.s (fun _ _ K => Ev.gf rfl lf_1_22_1 hp_5 rfl K) ?_
    refine EvP.s (fun _ _ K => Ev.go 1 rfl K) ?_
    refine EvP.s (fun _ _ K => Ev.iln rfl hp_10 rfl (by omega) (by omega) K) ?_
    rw [m2.2.2.2.1.2.2.1]
    refine EvP.ine rfl rfl rfl (by omega) (by omega) (fun c80 => ?_) (fun c80 => ?_)
    · refine EvP.s (fun _ _ K => Ev.go 1 rfl K) ?_
      exact J _ false rfl (by simp; try omega)
    refine EvP.s (fun _ _ K => Ev.go 2 rfl K) ?_
    exact J _ true rfl (by simp; try omega)
  refine EvP.s (fun _ _ K => Ev.go 1 rfl K) ?_
  refine ⟨_, _, Ev.reti rfl rfl, ?_⟩
  refine PMi.mk q ?_
  unfold an_join
  rw [if_pos (fun z => ofn c13 z.2)]
theorem p_M_halve (d : Nat) (x : sn_X5) {A : sn_A2} {B : sn_B2} (t : sn_H) {μ : sn_S} (q : MS A B μ) (kv : Int32) : SpP (d + 2) me_M_halve [.ref 5, .int kv] (hp x A B t) (PMi x t (an_halve μ kv)) := by
  refine SpP.of ok_M_halve (fun r h' z => z.rc) rfl ?_
  refine EvP.s (fun _ _ K => Ev.go 2 rfl K) ?_
  refine EvP.s (fun _ _ K => Ev.cv (E' := me_M_isBook) rfl mk_M_isBook lv_1_131_1 rfl hp_5 rfl (e_M_isBook d x t q _) K) ?_
  refine EvP.zn rfl rfl (fun c5 => ?_) (fun c5 => ?_)
  · obtain ⟨k, hk, hk2, rfl⟩ := rg_ex (ofd c5)
    have h8a := q.1.2.1
    have m := q.mk hk
    obtain ⟨b, hb⟩ : ∃ z, z = sbk μ k := ⟨_, rfl⟩
    have hwb := m.2.2.1
    rw [← hb] at m hwb
    have hm := hwb.2.1
    have h5 := hwb.1
    have h7 := hwb.2.2.2.2.2.2.2.1
    have lb := hwb.bl256 q.1.1.1
    have hu : an_halve μ (nI k) = if ¬ (bk b = 0 ∧ bm b % 2 = 0 ∧ 2 ≤ bm b / 2) then (- nI 103, μ) else if snb μ = 8 then (- nI 104, μ) else (nI (snb μ), addB μ (hlv b)) := by
      unfold an_halve
      rw [if_neg (fun z => z (ofd c5)), tn_nI hk2, ← hb]
    rw [hu]
    generalize hz0 : (if ¬ (bk b = 0 ∧ bm b % 2 = 0 ∧ 2 ≤ bm b / 2) then (- nI 103, μ) else if snb μ = 8 then (- nI 104, μ) else (nI (snb μ), addB μ (hlv b))) = z
    have F : snb μ < 8 → ∀ (A : sn_A2) (c : sn_Bk), MS A B μ → NB A (snb μ) 32 c → bc c = 0 → WB (sw μ).1 c → (nI (snb μ), addB μ c) = z → ∀ (v1 v2 v3 : Value), EvP o0 (d + 2) me_M_halve 196 [.ref 5, v1, v2, v3] [] (hp x A B t) (PMi x t z) := by
      intro h8 A c hM hN h0 hc hz v1 v2 v3
      have hM2 := hM.addB (v := A 0 1 + nI 1) h8 hc (hN.mb h0) (by rw [hM.2.2.1, nI_add])
      refine EvP.s (fun _ _ K => Ev.go 2 rfl K) ?_
      refine EvP.s (fun _ _ K => Ev.gf rfl lf_1_120_1 hp_5 rfl K) ?_
      refine EvP.s (fun _ _ K => Ev.go 2 rfl K) ?_
      refine EvP.s (fun _ _ K => Ev.pf rfl lp_M_halve_120_1 hp_5 rfl rfl K) ?_
      rw [hps_books]
      refine EvP.s (fun _ _ K => Ev.go 1 rfl K) ?_
      refine EvP.s (fun _ _ K => Ev.gf rfl lf_1_120_1 hp_5 rfl K) ?_
      refine EvP.s (fun _ _ K => Ev.go 2 rfl K) ?_
      refine ⟨_, _, Ev.reti rfl rfl, ?_⟩
      refine PMi.mk hM2 ?_
      rw [← hz]
      congr 1
      show upd (A 0) 1 (A 0 1 + nI 1) 1 - nI 1 = _
      rw [pk_us, hM.2.2.1, nI_add, pk_sub (by omega)]
      rfl
    have L : snb μ < 8 → WB (sw μ).1 (hlv b) → (nI (snb μ), addB μ (hlv b)) = z → ∀ (n : Nat) (A : sn_A2) (i : Nat) (iv : Int32), (i + n = 32) → (MS A B μ) → (NB A (snb μ) i (hlv b)) → (iv = nI i) → EvP o0 (d + 2) me_M_halve 108 [.ref 5, .int (nI k), .int (nI (bm b / 2)), .int iv] [] (hp x A B t) (PMi x t z) := by
      intro h8 hc hz n
      induction n using Nat.strongRecOn with
      | _ n ih =>
        intro A i iv h1 hM hN e3
        subst e3
        refine EvP.s (fun _ _ K => Ev.go 2 rfl K) ?_
        refine EvP.ige rfl rfl rfl (by omega) (by omega) (fun c111 => ?_) (fun c111 => ?_)
        · have e32 : i = 32 := by omega
          subst e32
          exact F h8 A _ hM hN rfl hc hz _ _ _
        refine EvP.s (fun _ _ K => Ev.go 1 rfl K) ?_
        refine EvP.s (fun _ _ K => Ev.gf rfl lf_1_25_1 hp_5 rfl K) ?_
        refine EvP.s (fun _ _ K => Ev.go 2 rfl K) ?_
        refine EvP.s (fun _ _ K => Ev.gf rfl lf_1_120_1 hp_5 rfl K) ?_
        refine EvP.s (fun _ _ K => Ev.go 5 rfl K) ?_
        refine EvP.ige rfl rfl rfl (by omega) (by omega) (fun c129 => ?_) (fun c129 => ?_)
        · refine EvP.s (fun _ _ K => Ev.go 1 rfl K) ?_
          refine EvP.s (fun _ _ K => Ev.isn rfl hp_11 (by show nI 32 * A 0 1 + nI i = _; rw [hM.2.2.1, pk_mul, nI_add]) (by omega) (by omega) K) ?_
          rw [hps_11]
          refine EvP.s (fun _ _ K => Ev.go 1 rfl K) ?_
          refine EvP.s (fun _ _ K => Ev.gf rfl lf_1_28_1 hp_5 rfl K) ?_
          refine EvP.s (fun _ _ K => Ev.go 2 rfl K) ?_
          refine EvP.s (fun _ _ K => Ev.gf rfl lf_1_120_1 hp_5 rfl K) ?_
          refine EvP.s (fun _ _ K => Ev.go 4 rfl K) ?_
          refine EvP.s (fun _ _ K => Ev.gf rfl lf_1_28_1 hp_5 rfl K) ?_
          refine EvP.s (fun _ _ K => Ev.go 5 rfl K) ?_
          refine EvP.s (fun _ _ K => Ev.iln rfl hp_12 (by rw [pk_mul, nI_add]) (by omega) (by omega) K) ?_
          rw [show ∀ f, uA A 11 f 12 (32 * k + i) = nI (bt b i) from fun f => by rw [hb]; exact (hM.mk hk).2.2.2.1.2.2.2.2.1 i (by omega)]
          refine EvP.s (fun _ _ K => Ev.isn rfl hp_12 (by show nI 32 * A 0 1 + nI i = _; rw [hM.2.2.1, pk_mul, nI_add]) (by omega) (by omega) K) ?_
          rw [hps_12]
          refine EvP.s (fun _ _ K => Ev.go 2 rfl K) ?_
          have hv : nI 0 = nI (bn (hlv b) i) := by show _ = nI (if i < bm b / 2 then max (bn b i) (bn b (bm b / 2 + i)) else 0); rw [if_neg (by omega)]
          have hA : ∀ z, z = nI (bn (hlv b) i) → upd (A 11) (32 * snb μ + i) z = upd (A 11) (32 * snb μ + i) (nI (bn (hlv b) i)) := fun z e => by rw [e]
          rw [hA _ hv]
          exact ih (n - 1) (by omega) _ (i + 1) _ (by omega) (hM.step2 i _ _) (hN.step) (by rw [nI_add])
        refine EvP.s (fun _ _ K => Ev.go 1 rfl K) ?_
        refine EvP.s (fun _ _ K => Ev.gf rfl lf_1_25_1 hp_5 rfl K) ?_
        refine EvP.s (fun _ _ K => Ev.go 5 rfl K) ?_
        refine EvP.s (fun _ _ K => Ev.iln rfl hp_11 (by rw [pk_mul, nI_add]) (by omega) (by omega) K) ?_
        rw [(hM.mk hk).2.2.2.1.2.2.2.1 i (by omega), ← hb]
        refine EvP.s (fun _ _ K => Ev.go 1 rfl K) ?_
        refine EvP.s (fun _ _ K => Ev.gf rfl lf_1_25_1 hp_5 rfl K) ?_
        refine EvP.s (fun _ _ K => Ev.go 7 rfl K) ?_
        refine EvP.s (fun _ _ K => Ev.iln rfl hp_11 (by rw [pk_mul, nI_add, nI_add]) (by omega) (by omega) K) ?_
        rw [show A 11 (32 * k + bm b / 2 + i) = nI (bn b (bm b / 2 + i)) from by rw [Nat.add_assoc, hb]; exact (hM.mk hk).2.2.2.1.2.2.2.1 _ (by rw [← hb]; omega)]
        refine EvP.s (fun _ _ K => Ev.go 1 rfl K) ?_
        refine EvP.s (fun _ _ K => Ev.cs (E' := me_M_chosen) rfl mk_M_chosen ls_1_215 rfl rfl (e_M_chosen (l := false) (d + 1) _ rfl rfl rfl (by have := h7 i; omega) (by have := h7 (bm b / 2 + i); omega)) K) ?_
        refine EvP.s (fun _ _ K => Ev.go 1 rfl K) ?_
        refine EvP.s (fun _ _ K => Ev.isn rfl hp_11 (by show nI 32 * A 0 1 + nI i = _; rw [hM.2.2.1, pk_mul, nI_add]) (by omega) (by omega) K) ?_
        rw [hps_11]
        refine EvP.s (fun _ _ K => Ev.go 1 rfl K) ?_
        refine EvP.s (fun _ _ K => Ev.gf rfl lf_1_28_1 hp_5 rfl K) ?_
        refine EvP.s (fun _ _ K => Ev.go 2 rfl K) ?_
        refine EvP.s (fun _ _ K => Ev.gf rfl lf_1_120_1 hp_5 rfl K) ?_
        refine EvP.s (fun _ _ K => Ev.go 4 rfl K) ?_
        refine EvP.s (fun _ _ K => Ev.gf rfl lf_1_28_1 hp_5 rfl K) ?_
        refine EvP.s (fun _ _ K => Ev.go 5 rfl K) ?_
        refine EvP.s (fun _ _ K => Ev.iln rfl hp_12 (by rw [pk_mul, nI_add]) (by omega) (by omega) K) ?_
        rw [show ∀ f, uA A 11 f 12 (32 * k + i) = nI (bt b i) from fun f => by rw [hb]; exact (hM.mk hk).2.2.2.1.2.2.2.2.1 i (by omega)]
        refine EvP.s (fun _ _ K => Ev.isn rfl hp_12 (by show nI 32 * A 0 1 + nI i = _; rw [hM.2.2.1, pk_mul, nI_add]) (by omega) (by omega) K) ?_
        rw [hps_12]
        refine EvP.s (fun _ _ K => Ev.go 2 rfl K) ?_
        have hv : nI (if false = true then min (bn b i) (bn b (bm b / 2 + i)) else max (bn b i) (bn b (bm b / 2 + i))) = nI (bn (hlv b) i) := by show _ = nI (if i < bm b / 2 then max (bn b i) (bn b (bm b / 2 + i)) else 0); rw [if_pos c129]; rfl
        have hA : ∀ z, z = nI (bn (hlv b) i) → upd (A 11) (32 * snb μ + i) z = upd (A 11) (32 * snb μ + i) (nI (bn (hlv b) i)) := fun z e => by rw [e]
        rw [hA _ hv]
        exact ih (n - 1) (by omega) _ (i + 1) _ (by omega) (hM.step2 i _ _) (hN.step) (by rw [nI_add])
    refine EvP.s (fun _ _ K => Ev.go 1 rfl K) ?_
    refine EvP.s (fun _ _ K => Ev.gf rfl lf_1_19_1 hp_5 rfl K) ?_
    refine EvP.s (fun _ _ K => Ev.go 1 rfl K) ?_
    refine EvP.s (fun _ _ K => Ev.iln rfl hp_9 rfl (by omega) (by omega) K) ?_
    rw [m.2.2.2.1.2.1]
    refine EvP.s (fun _ _ K => Ev.go 1 rfl K) ?_
    refine EvP.s (fun _ _ K => Ev.dv rfl rfl rfl (by omega) (by omega) (by omega) K) ?_
    refine EvP.s (fun _ _ K => Ev.go 2 rfl K) ?_
    refine EvP.s (fun _ _ K => Ev.gf rfl lf_1_16_1 hp_5 rfl K) ?_
    refine EvP.s (fun _ _ K => Ev.go 1 rfl K) ?_
    refine EvP.s (fun _ _ K => Ev.iln rfl hp_8 rfl (by omega) (by omega) K) ?_
    rw [m.2.2.2.1.1]
    refine EvP.zne rfl rfl (by omega) (fun c26 => ?_) (fun c26 => ?_)
    · refine EvP.s (fun _ _ K => Ev.go 1 rfl K) ?_
      refine ⟨_, _, Ev.reti rfl rfl, ?_⟩
      refine PMi.mk q ?_
      rw [← hz0, if_pos (by omega)]
    refine EvP.s (fun _ _ K => Ev.go 1 rfl K) ?_
    refine EvP.s (fun _ _ K => Ev.gf rfl lf_1_19_1 hp_5 rfl K) ?_
    refine EvP.s (fun _ _ K => Ev.go 1 rfl K) ?_
    refine EvP.s (fun _ _ K => Ev.iln rfl hp_9 rfl (by omega) (by omega) K) ?_
    rw [m.2.2.2.1.2.1]
    refine EvP.s (fun _ _ K => Ev.go 1 rfl K) ?_
    refine EvP.s (fun _ _ K => Ev.rm rfl rfl rfl (by omega) (by omega) (by omega) K) ?_
    refine EvP.s (fun _ _ K => Ev.go 1 rfl K) ?_
    refine EvP.ieq rfl rfl rfl (by omega) (by omega) (fun c38 => ?_) (fun c38 => ?_)
    · refine EvP.s (fun _ _ K => Ev.go 1 rfl K) ?_
      refine ⟨_, _, Ev.reti rfl rfl, ?_⟩
      refine PMi.mk q ?_
      rw [← hz0, if_pos (by omega)]
    refine EvP.s (fun _ _ K => Ev.go 2 rfl K) ?_
    refine EvP.ige rfl rfl rfl (by omega) (by omega) (fun c43 => ?_) (fun c43 => ?_)
    · refine EvP.s (fun _ _ K => Ev.go 1 rfl K) ?_
      refine EvP.s (fun _ _ K => Ev.gf rfl lf_1_120_1 hp_5 rfl K) ?_
      refine EvP.s (fun _ _ K => Ev.go 1 rfl K) ?_
      refine EvP.ine rfl q.2.2.1 rfl (by omega) (by omega) (fun c55 => ?_) (fun c55 => ?_)
      · refine EvP.s (fun _ _ K => Ev.go 1 rfl K) ?_
        refine EvP.s (fun _ _ K => Ev.gf rfl lf_1_16_1 hp_5 rfl K) ?_
        refine EvP.s (fun _ _ K => Ev.go 1 rfl K) ?_
        refine EvP.s (fun _ _ K => Ev.gf rfl lf_1_120_1 hp_5 rfl K) ?_
        refine EvP.s (fun _ _ K => Ev.go 1 rfl K) ?_
        refine EvP.s (fun _ _ K => Ev.isn rfl hp_8 (by show A 0 1 = _; exact q.2.2.1) (by omega) (by omega) K) ?_
        rw [hps_8]
        refine EvP.s (fun _ _ K => Ev.go 1 rfl K) ?_
        refine EvP.s (fun _ _ K => Ev.gf rfl lf_1_19_1 hp_5 rfl K) ?_
        refine EvP.s (fun _ _ K => Ev.go 1 rfl K) ?_
        refine EvP.s (fun _ _ K => Ev.gf rfl lf_1_120_1 hp_5 rfl K) ?_
        refine EvP.s (fun _ _ K => Ev.go 1 rfl K) ?_
        refine EvP.s (fun _ _ K => Ev.isn rfl hp_9 (by show A 0 1 = _; exact q.2.2.1) (by omega) (by omega) K) ?_
        rw [hps_9]
        refine EvP.s (fun _ _ K => Ev.go 1 rfl K) ?_
        refine EvP.s (fun _ _ K => Ev.gf rfl lf_1_22_1 hp_5 rfl K) ?_
        refine EvP.s (fun _ _ K => Ev.go 1 rfl K) ?_
        refine EvP.s (fun _ _ K => Ev.gf rfl lf_1_120_1 hp_5 rfl K) ?_
        refine EvP.s (fun _ _ K => Ev.go 1 rfl K) ?_
        refine EvP.s (fun _ _ K => Ev.gf rfl lf_1_22_1 hp_5 rfl K) ?_
        refine EvP.s (fun _ _ K => Ev.go 1 rfl K) ?_
        refine EvP.s (fun _ _ K => Ev.iln rfl hp_10 rfl (by omega) (by omega) K) ?_
        rw [show ∀ f g, uA (uA A 8 f) 9 g 10 k = nI (bl b) from fun f g => m.2.2.2.1.2.2.1]
        refine EvP.s (fun _ _ K => Ev.isn rfl hp_10 (by show A 0 1 = _; exact q.2.2.1) (by omega) (by omega) K) ?_
        rw [hps_10]
        refine EvP.s (fun _ _ K => Ev.go 1 rfl K) ?_
        refine EvP.s (fun _ _ K => Ev.gf rfl lf_1_31_1 hp_5 rfl K) ?_
        refine EvP.s (fun _ _ K => Ev.go 1 rfl K) ?_
        refine EvP.s (fun _ _ K => Ev.gf rfl lf_1_120_1 hp_5 rfl K) ?_
        refine EvP.s (fun _ _ K => Ev.go 1 rfl K) ?_
        refine EvP.s (fun _ _ K => Ev.isn rfl hp_13 (by show A 0 1 = _; exact q.2.2.1) (by omega) (by omega) K) ?_
        rw [hps_13]
        refine EvP.s (fun _ _ K => Ev.go 2 rfl K) ?_
        have hz1 := hz0
        rw [if_neg (fun z => z (by omega)), if_neg c55] at hz1
        exact L (by omega) (WB.hlv hwb (by omega)) hz1 32 (hdA A (snb μ) (nI 0) (nI (bm b / 2)) (nI (bl b))) 0 _ (by omega) (q.head _ _ _) (NB.head (c := hlv b)) rfl
      refine EvP.s (fun _ _ K => Ev.go 1 rfl K) ?_
      refine ⟨_, _, Ev.reti rfl rfl, ?_⟩
      refine PMi.mk q ?_
      rw [← hz0, if_neg (fun z => z (by omega)), if_pos c55]
    refine EvP.s (fun _ _ K => Ev.go 1 rfl K) ?_
    refine ⟨_, _, Ev.reti rfl rfl, ?_⟩
    refine PMi.mk q ?_
    rw [← hz0, if_pos (by omega)]
  refine EvP.s (fun _ _ K => Ev.go 1 rfl K) ?_
  refine ⟨_, _, Ev.reti rfl rfl, ?_⟩
  refine PMi.mk q ?_
  unfold an_halve
  rw [if_pos (ofn c5)]
