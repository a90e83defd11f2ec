/-! EVP: the method ends somehow, and P holds of its answer and of the cells -/
def EvP (Ω : sn_O) (d : Nat) (E : sn_E) (pc : Nat) (lv st : List Value) (h : sn_H) (P : Option Value → sn_H → Prop) : Prop := ∃ r h', Ev Ω d E pc lv st h r h' ∧ P r h'
def SpP (d : Nat) (E : sn_E) (args : List Value) (h : sn_H) (P : Option Value → sn_H → Prop) : Prop := ∃ r h', Sp d E args h r h' ∧ P r h'
theorem SpP.of {d : Nat} {E : sn_E} {args lv : List Value} {h : sn_H} {P : Option Value → sn_H → Prop} (ok : sn_MOK E) (hrc : ∀ r h', P r h' → sn_rc E.2.2.2.2.2 r) (hent : sn_ent E.2.2.2.2.1 args = some (0, lv, [])) (K : EvP o0 d E 0 lv [] h P) : SpP d E args h P := by
  obtain ⟨r, h', e, q⟩ := K
  exact ⟨r, h', Sp.of ok (hrc r h' q) hent e, q⟩
theorem SpP.imp {d : Nat} {E : sn_E} {args : List Value} {h : sn_H} {P P' : Option Value → sn_H → Prop} (K : SpP d E args h P) (i : ∀ r h', P r h' → P' r h') : SpP d E args h P' := by
  obtain ⟨r, h', e, q⟩ := K
  exact ⟨r, h', e, i r h' q⟩
theorem Sp.p {d : Nat} {E : sn_E} {args : List Value} {h h' : sn_H} {r : Option Value} {P : Option Value → sn_H → Prop} (K : Sp d E args h r h') (q : P r h') : SpP d E args h P := ⟨r, h', K, q⟩
section EV
variable {Ω : sn_O} {d : Nat} {E : sn_E} {pc : Nat} {lv rest st : List Value} {h : sn_H} {P : Option Value → sn_H → Prop} {len nx tg len2 nx2 tg2 : Nat}
theorem EvP.s {pc' : Nat} {lv' st' : List Value} {h1 : sn_H} (S : ∀ (r : Option Value) (h' : sn_H), Ev Ω d E pc' lv' st' h1 r h' → Ev Ω d E pc lv st h r h') (K : EvP Ω d E pc' lv' st' h1 P) : EvP Ω d E pc lv st h P := by
  obtain ⟨r, h', e, q⟩ := K
  exact ⟨r, h', S r h' e, q⟩
theorem EvP.br {p1 p2 : Nat} {lv' st' : List Value} {i : Instr} {c : Prop} [Decidable c] (hi : sn_tg E.2.1 pc = some (i, len, nx, tg)) (h1 : sn_ps E.1 E.2.2.2.2.1 i nx tg pc lv st = some (True, (if c then p1 else p2), lv', st'))
    (K1 : c → EvP Ω d E p1 lv' st' h P) (K2 : ¬ c → EvP Ω d E p2 lv' st' h P) : EvP Ω d E pc lv st h P := by
  by_cases hc : c
  · exact EvP.s (fun _ _ K => Ev.bt hi h1 hc K) (K1 hc)
  · exact EvP.s (fun _ _ K => Ev.bf hi h1 hc K) (K2 hc)
theorem EvP.brn {p1 p2 : Nat} {lv' st' : List Value} {i : Instr} {c : Prop} [Decidable c] (hi : sn_tg E.2.1 pc = some (i, len, nx, tg)) (h1 : sn_ps E.1 E.2.2.2.2.1 i nx tg pc lv st = some (True, (if c then p2 else p1), lv', st'))
    (K1 : ¬ c → EvP Ω d E p1 lv' st' h P) (K2 : c → EvP Ω d E p2 lv' st' h P) : EvP Ω d E pc lv st h P := EvP.br hi h1 K2 K1
theorem EvP.zb {c : Bool} {x : Int32} {o : Int} (hi : sn_tg E.2.1 pc = some (.ifCond .eq o, len, nx, tg)) (ex : x = b2i c) (K1 : c = false → EvP Ω d E tg lv rest h P) (K2 : c = true → EvP Ω d E nx lv rest h P) : EvP Ω d E pc lv (.int x :: rest) h P := by
  cases c with
  | false => exact EvP.s (fun _ _ K => Ev.zb hi ex (fun _ => K) (fun q => by cases q)) (K1 rfl)
  | true => exact EvP.s (fun _ _ K => Ev.zb hi ex (fun q => by cases q) (fun _ => K)) (K2 rfl)
theorem EvP.zn {c : Bool} {x : Int32} {o : Int} (hi : sn_tg E.2.1 pc = some (.ifCond .ne o, len, nx, tg)) (ex : x = b2i c) (K1 : c = true → EvP Ω d E tg lv rest h P) (K2 : c = false → EvP Ω d E nx lv rest h P) : EvP Ω d E pc lv (.int x :: rest) h P := by
  cases c with
  | false => exact EvP.s (fun _ _ K => Ev.zn hi ex (fun q => by cases q) (fun _ => K)) (K2 rfl)
  | true => exact EvP.s (fun _ _ K => Ev.zn hi ex (fun _ => K) (fun q => by cases q)) (K1 rfl)
theorem EvP.ieq {x y : Int32} {a b : Nat} {o : Int} (hi : sn_tg E.2.1 pc = some (.if_icmp .eq o, len, nx, tg)) (ex : x = nI a) (ey : y = nI b) (ha : a < 2 ^ 31) (hb : b < 2 ^ 31) (K1 : a = b → EvP Ω d E tg lv rest h P) (K2 : ¬ a = b → EvP Ω d E nx lv rest h P) : EvP Ω d E pc lv (.int y :: .int x :: rest) h P := by
  by_cases c : a = b
  · exact EvP.s (fun _ _ K => Ev.ieq hi ex ey ha hb (fun _ => K) (fun q => absurd c (by omega))) (K1 c)
  · exact EvP.s (fun _ _ K => Ev.ieq hi ex ey ha hb (fun q => absurd q c) (fun _ => K)) (K2 (by omega))
theorem EvP.ine {x y : Int32} {a b : Nat} {o : Int} (hi : sn_tg E.2.1 pc = some (.if_icmp .ne o, len, nx, tg)) (ex : x = nI a) (ey : y = nI b) (ha : a < 2 ^ 31) (hb : b < 2 ^ 31) (K1 : ¬ a = b → EvP Ω d E tg lv rest h P) (K2 : a = b → EvP Ω d E nx lv rest h P) : EvP Ω d E pc lv (.int y :: .int x :: rest) h P := by
  by_cases c : ¬ a = b
  · exact EvP.s (fun _ _ K => Ev.ine hi ex ey ha hb (fun _ => K) (fun q => absurd c (by omega))) (K1 c)
  · exact EvP.s (fun _ _ K => Ev.ine hi ex ey ha hb (fun q => absurd q c) (fun _ => K)) (K2 (by omega))
theorem EvP.ilt {x y : Int32} {a b : Nat} {o : Int} (hi : sn_tg E.2.1 pc = some (.if_icmp .lt o, len, nx, tg)) (ex : x = nI a) (ey : y = nI b) (ha : a < 2 ^ 31) (hb : b < 2 ^ 31) (K1 : a < b → EvP Ω d E tg lv rest h P) (K2 : b ≤ a → EvP Ω d E nx lv rest h P) : EvP Ω d E pc lv (.int y :: .int x :: rest) h P := by
  by_cases c : a < b
  · exact EvP.s (fun _ _ K => Ev.ilt hi ex ey ha hb (fun _ => K) (fun q => absurd c (by omega))) (K1 c)
  · exact EvP.s (fun _ _ K => Ev.ilt hi ex ey ha hb (fun q => absurd q c) (fun _ => K)) (K2 (by omega))
theorem EvP.ige {x y : Int32} {a b : Nat} {o : Int} (hi : sn_tg E.2.1 pc = some (.if_icmp .ge o, len, nx, tg)) (ex : x = nI a) (ey : y = nI b) (ha : a < 2 ^ 31) (hb : b < 2 ^ 31) (K1 : b ≤ a → EvP Ω d E tg lv rest h P) (K2 : a < b → EvP Ω d E nx lv rest h P) : EvP Ω d E pc lv (.int y :: .int x :: rest) h P := by
  by_cases c : b ≤ a
  · exact EvP.s (fun _ _ K => Ev.ige hi ex ey ha hb (fun _ => K) (fun q => absurd c (by omega))) (K1 c)
  · exact EvP.s (fun _ _ K => Ev.ige hi ex ey ha hb (fun q => absurd q c) (fun _ => K)) (K2 (by omega))
theorem EvP.igt {x y : Int32} {a b : Nat} {o : Int} (hi : sn_tg E.2.1 pc = some (.if_icmp .gt o, len, nx, tg)) (ex : x = nI a) (ey : y = nI b) (ha : a < 2 ^ 31) (hb : b < 2 ^ 31) (K1 : b < a → EvP Ω d E tg lv rest h P) (K2 : a ≤ b → EvP Ω d E nx lv rest h P) : EvP Ω d E pc lv (.int y :: .int x :: rest) h P := by
  by_cases c : b < a
  · exact EvP.s (fun _ _ K => Ev.igt hi ex ey ha hb (fun _ => K) (fun q => absurd c (by omega))) (K1 c)
  · exact EvP.s (fun _ _ K => Ev.igt hi ex ey ha hb (fun q => absurd q c) (fun _ => K)) (K2 (by omega))
theorem EvP.ile {x y : Int32} {a b : Nat} {o : Int} (hi : sn_tg E.2.1 pc = some (.if_icmp .le o, len, nx, tg)) (ex : x = nI a) (ey : y = nI b) (ha : a < 2 ^ 31) (hb : b < 2 ^ 31) (K1 : a ≤ b → EvP Ω d E tg lv rest h P) (K2 : b < a → EvP Ω d E nx lv rest h P) : EvP Ω d E pc lv (.int y :: .int x :: rest) h P := by
  by_cases c : a ≤ b
  · exact EvP.s (fun _ _ K => Ev.ile hi ex ey ha hb (fun _ => K) (fun q => absurd c (by omega))) (K1 c)
  · exact EvP.s (fun _ _ K => Ev.ile hi ex ey ha hb (fun q => absurd q c) (fun _ => K)) (K2 (by omega))
theorem EvP.leq {x y : Int64} {a b : Nat} {o : Int} (hi : sn_tg E.2.1 pc = some (.lcmp, len, nx, tg)) (hi2 : sn_tg E.2.1 nx = some (.ifCond .eq o, len2, nx2, tg2)) (ex : x = lN a) (ey : y = lN b) (ha : a < 2 ^ 63) (hb : b < 2 ^ 63) (K1 : a = b → EvP Ω d E tg2 lv rest h P) (K2 : ¬ a = b → EvP Ω d E nx2 lv rest h P) : EvP Ω d E pc lv (.long y :: .long x :: rest) h P := by
  by_cases c : a = b
  · exact EvP.s (fun _ _ K => Ev.leq hi hi2 ex ey ha hb (fun _ => K) (fun q => absurd c (by omega))) (K1 c)
  · exact EvP.s (fun _ _ K => Ev.leq hi hi2 ex ey ha hb (fun q => absurd q c) (fun _ => K)) (K2 (by omega))
theorem EvP.lne {x y : Int64} {a b : Nat} {o : Int} (hi : sn_tg E.2.1 pc = some (.lcmp, len, nx, tg)) (hi2 : sn_tg E.2.1 nx = some (.ifCond .ne o, len2, nx2, tg2)) (ex : x = lN a) (ey : y = lN b) (ha : a < 2 ^ 63) (hb : b < 2 ^ 63) (K1 : ¬ a = b → EvP Ω d E tg2 lv rest h P) (K2 : a = b → EvP Ω d E nx2 lv rest h P) : EvP Ω d E pc lv (.long y :: .long x :: rest) h P := by
  by_cases c : ¬ a = b
  · exact EvP.s (fun _ _ K => Ev.lne hi hi2 ex ey ha hb (fun _ => K) (fun q => absurd c (by omega))) (K1 c)
  · exact EvP.s (fun _ _ K => Ev.lne hi hi2 ex ey ha hb (fun q => absurd q c) (fun _ => K)) (K2 (by omega))
theorem EvP.llt {x y : Int64} {a b : Nat} {o : Int} (hi : sn_tg E.2.1 pc = some (.lcmp, len, nx, tg)) (hi2 : sn_tg E.2.1 nx = some (.ifCond .lt o, len2, nx2, tg2)) (ex : x = lN a) (ey : y = lN b) (ha : a < 2 ^ 63) (hb : b < 2 ^ 63) (K1 : a < b → EvP Ω d E tg2 lv rest h P) (K2 : b ≤ a → EvP Ω d E nx2 lv rest h P) : EvP Ω d E pc lv (.long y :: .long x :: rest) h P := by
  by_cases c : a < b
  · exact EvP.s (fun _ _ K => Ev.llt hi hi2 ex ey ha hb (fun _ => K) (fun q => absurd c (by omega))) (K1 c)
  · exact EvP.s (fun _ _ K => Ev.llt hi hi2 ex ey ha hb (fun q => absurd q c) (fun _ => K)) (K2 (by omega))
theorem EvP.lge {x y : Int64} {a b : Nat} {o : Int} (hi : sn_tg E.2.1 pc = some (.lcmp, len, nx, tg)) (hi2 : sn_tg E.2.1 nx = some (.ifCond .ge o, len2, nx2, tg2)) (ex : x = lN a) (ey : y = lN b) (ha : a < 2 ^ 63) (hb : b < 2 ^ 63) (K1 : b ≤ a → EvP Ω d E tg2 lv rest h P) (K2 : a < b → EvP Ω d E nx2 lv rest h P) : EvP Ω d E pc lv (.long y :: .long x :: rest) h P := by
  by_cases c : b ≤ a
  · exact EvP.s (fun _ _ K => Ev.lge hi hi2 ex ey ha hb (fun _ => K) (fun q => absurd c (by omega))) (K1 c)
  · exact EvP.s (fun _ _ K => Ev.lge hi hi2 ex ey ha hb (fun q => absurd q c) (fun _ => K)) (K2 (by omega))
theorem EvP.lgt {x y : Int64} {a b : Nat} {o : Int} (hi : sn_tg E.2.1 pc = some (.lcmp, len, nx, tg)) (hi2 : sn_tg E.2.1 nx = some (.ifCond .gt o, len2, nx2, tg2)) (ex : x = lN a) (ey : y = lN b) (ha : a < 2 ^ 63) (hb : b < 2 ^ 63) (K1 : b < a → EvP Ω d E tg2 lv rest h P) (K2 : a ≤ b → EvP Ω d E nx2 lv rest h P) : EvP Ω d E pc lv (.long y :: .long x :: rest) h P := by
  by_cases c : b < a
  · exact EvP.s (fun _ _ K => Ev.lgt hi hi2 ex ey ha hb (fun _ => K) (fun q => absurd c (by omega))) (K1 c)
  · exact EvP.s (fun _ _ K => Ev.lgt hi hi2 ex ey ha hb (fun q => absurd q c) (fun _ => K)) (K2 (by omega))
theorem EvP.lle {x y : Int64} {a b : Nat} {o : Int} (hi : sn_tg E.2.1 pc = some (.lcmp, len, nx, tg)) (hi2 : sn_tg E.2.1 nx = some (.ifCond .le o, len2, nx2, tg2)) (ex : x = lN a) (ey : y = lN b) (ha : a < 2 ^ 63) (hb : b < 2 ^ 63) (K1 : a ≤ b → EvP Ω d E tg2 lv rest h P) (K2 : b < a → EvP Ω d E nx2 lv rest h P) : EvP Ω d E pc lv (.long y :: .long x :: rest) h P := by
  by_cases c : a ≤ b
  · exact EvP.s (fun _ _ K => Ev.lle hi hi2 ex ey ha hb (fun _ => K) (fun q => absurd c (by omega))) (K1 c)
  · exact EvP.s (fun _ _ K => Ev.lle hi hi2 ex ey ha hb (fun q => absurd q c) (fun _ => K)) (K2 (by omega))
theorem EvP.zle {x : Int32} {a : Nat} {o : Int} (hi : sn_tg E.2.1 pc = some (.ifCond .le o, len, nx, tg)) (ex : x = nI a) (ha : a < 2 ^ 31) (K1 : a = 0 → EvP Ω d E tg lv rest h P) (K2 : 0 < a → EvP Ω d E nx lv rest h P) : EvP Ω d E pc lv (.int x :: rest) h P := by
  by_cases c : a = 0
  · exact EvP.s (fun _ _ K => Ev.zle hi ex ha (fun _ => K) (fun q => absurd c (by omega))) (K1 c)
  · exact EvP.s (fun _ _ K => Ev.zle hi ex ha (fun q => absurd q c) (fun _ => K)) (K2 (by omega))
theorem EvP.zgt {x : Int32} {a : Nat} {o : Int} (hi : sn_tg E.2.1 pc = some (.ifCond .gt o, len, nx, tg)) (ex : x = nI a) (ha : a < 2 ^ 31) (K1 : 0 < a → EvP Ω d E tg lv rest h P) (K2 : a = 0 → EvP Ω d E nx lv rest h P) : EvP Ω d E pc lv (.int x :: rest) h P := by
  by_cases c : 0 < a
  · exact EvP.s (fun _ _ K => Ev.zgt hi ex ha (fun _ => K) (fun q => absurd c (by omega))) (K1 c)
  · exact EvP.s (fun _ _ K => Ev.zgt hi ex ha (fun q => absurd q c) (fun _ => K)) (K2 (by omega))
theorem EvP.zeq {x : Int32} {a : Nat} {o : Int} (hi : sn_tg E.2.1 pc = some (.ifCond .eq o, len, nx, tg)) (ex : x = nI a) (ha : a < 2 ^ 31) (K1 : a = 0 → EvP Ω d E tg lv rest h P) (K2 : 0 < a → EvP Ω d E nx lv rest h P) : EvP Ω d E pc lv (.int x :: rest) h P := by
  by_cases c : a = 0
  · exact EvP.s (fun _ _ K => Ev.zeq hi ex ha (fun _ => K) (fun q => absurd c (by omega))) (K1 c)
  · exact EvP.s (fun _ _ K => Ev.zeq hi ex ha (fun q => absurd q c) (fun _ => K)) (K2 (by omega))
theorem EvP.zne {x : Int32} {a : Nat} {o : Int} (hi : sn_tg E.2.1 pc = some (.ifCond .ne o, len, nx, tg)) (ex : x = nI a) (ha : a < 2 ^ 31) (K1 : 0 < a → EvP Ω d E tg lv rest h P) (K2 : a = 0 → EvP Ω d E nx lv rest h P) : EvP Ω d E pc lv (.int x :: rest) h P := by
  by_cases c : 0 < a
  · exact EvP.s (fun _ _ K => Ev.zne hi ex ha (fun _ => K) (fun q => absurd c (by omega))) (K1 c)
  · exact EvP.s (fun _ _ K => Ev.zne hi ex ha (fun q => absurd q c) (fun _ => K)) (K2 (by omega))
end EV
