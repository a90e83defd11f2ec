/-! THE RULES OF EV: cells and calls -/
def sn_cts (L : List Value) : Nat := match L with
  | [] => 0
  | v :: r => v.category + sn_cts r
theorem sn_cts_eq (L : List Value) : (L.map Value.category).sum = sn_cts L := by
  induction L with
  | nil => rfl
  | cons v r ih => simp [sn_cts, ← ih]
theorem sn_ctk {L : List Value} (h : Nat.ble (sn_cts L) 8 = true) : (L.map Value.category).sum ≤ 8 := by
  rw [sn_cts_eq]; exact Nat.le_of_ble_eq_true h
def sn_spl (n : Nat) (st acc : List Value) : Option (List Value × List Value) := match n with
  | 0 => some (acc, st)
  | m + 1 => match st with
    | [] => none
    | v :: r => sn_spl m r (v :: acc)
theorem sn_spl_ok {n : Nat} : ∀ {st acc as rest : List Value}, sn_spl n st acc = some (as, rest) → as.reverse ++ rest = acc.reverse ++ st ∧ as.length = n + acc.length := by
  induction n with
  | zero =>
    intro st acc as rest h
    unfold sn_spl at h
    cases h
    exact ⟨rfl, by omega⟩
  | succ m ih =>
    intro st acc as rest h
    unfold sn_spl at h
    cases st with
    | nil => cases h
    | cons v r =>
      obtain ⟨h1, h2⟩ := ih h
      refine ⟨by rw [h1]; simp, by rw [h2]; simp; omega⟩
section EV
variable {Ω : sn_O} {d : Nat} {E : sn_E} {pc : Nat} {lv rest st : List Value} {h h' : sn_H} {r : Option Value} {len nx tg : Nat}
theorem Ev.ret {i : Instr} (hi : sn_tg E.2.1 pc = some (i, 1, nx, tg)) (hr : sn_Rt i r) (hst : st = r.toList) : Ev Ω d E pc lv st h r h := by
  subst hst
  refine ⟨⟨Nat.le_refl _, Nat.le_refl _⟩, fun γ κ mc ms Q n k kf om a b R => ?_⟩
  intro H locs ls hR hl hS
  have hd := (kf.2.2.2.2.2.2.2.2.2.1 _ (sn_tg_mem hi)).1
  have R2 := R pc i ls H locs hd hr hR hS
  rw [Nat.sub_self, Nat.sub_self] at R2
  exact R2
theorem Ev.reti {x y : Int32} (hi : sn_tg E.2.1 pc = some (.ireturn, 1, nx, tg)) (e : x = y) : Ev Ω d E pc lv [.int x] h (some (.int y)) h := by subst e; exact Ev.ret hi trivial rfl
theorem Ev.retl {x y : Int64} (hi : sn_tg E.2.1 pc = some (.lreturn, 1, nx, tg)) (e : x = y) : Ev Ω d E pc lv [.long x] h (some (.long y)) h := by subst e; exact Ev.ret hi trivial rfl
theorem Ev.retv (hi : sn_tg E.2.1 pc = some (.return_, 1, nx, tg)) : Ev Ω d E pc lv [] h none h := Ev.ret hi trivial rfl
theorem Ev.reta {x y : Nat} (hi : sn_tg E.2.1 pc = some (.areturn, 1, nx, tg)) (e : x = y) : Ev Ω d E pc lv [.ref x] h (some (.ref y)) h := by subst e; exact Ev.ret hi trivial rfl
theorem Ev.retn (hi : sn_tg E.2.1 pc = some (.areturn, 1, nx, tg)) : Ev Ω d E pc lv [.null] h (some .null) h := Ev.ret hi trivial rfl
theorem Ev.gf {idx ci j a : Nat} {fs : List Value} {v : Value} (hi : sn_tg E.2.1 pc = some (.getfield idx, len, nx, tg)) (lk : sn_LF E.1 idx ci j) (ha : h[a]? = some (.inr (ci, fs))) (hv : fs[j]? = some v) (K : Ev Ω d E nx lv (v :: rest) h r h') : Ev Ω d E pc lv (.ref a :: rest) h r h' :=
  Ev.same (fun _ _ _ _ _ _ _ kf _ K => sn_awGet kf (sn_tg_mem hi) lk ha hv K) K
theorem Ev.il {a N : Nat} {f : Nat → Int32} {i : Int32} (hi : sn_tg E.2.1 pc = some (.iaload, len, nx, tg)) (ha : h[a]? = some (.inl (0, N, .inl f))) (hin : vp_in i N) (K : Ev Ω d E nx lv (.int (f i.toNatClampNeg) :: rest) h r h') : Ev Ω d E pc lv (.int i :: .ref a :: rest) h r h' :=
  Ev.same (fun _ _ _ _ _ _ _ kf _ K => sn_awIald kf (sn_tg_mem hi) ha hin K) K
theorem Ev.bl {a N : Nat} {f : Nat → Int32} {i : Int32} (hi : sn_tg E.2.1 pc = some (.baload, len, nx, tg)) (ha : h[a]? = some (.inl (2, N, .inl f))) (hin : vp_in i N) (K : Ev Ω d E nx lv (.int (f i.toNatClampNeg) :: rest) h r h') : Ev Ω d E pc lv (.int i :: .ref a :: rest) h r h' :=
  Ev.same (fun _ _ _ _ _ _ _ kf _ K => sn_awBald kf (sn_tg_mem hi) ha hin K) K
theorem Ev.ll {a N : Nat} {f : Nat → Int64} {i : Int32} (hi : sn_tg E.2.1 pc = some (.laload, len, nx, tg)) (ha : h[a]? = some (.inl (1, N, .inr (.inl f)))) (hin : vp_in i N) (K : Ev Ω d E nx lv (.long (f i.toNatClampNeg) :: rest) h r h') : Ev Ω d E pc lv (.int i :: .ref a :: rest) h r h' :=
  Ev.same (fun _ _ _ _ _ _ _ kf _ K => sn_awLald kf (sn_tg_mem hi) ha hin K) K
/-- the same with the index as a number -/
theorem Ev.iln {a N j : Nat} {f : Nat → Int32} {i : Int32} (hi : sn_tg E.2.1 pc = some (.iaload, len, nx, tg)) (ha : h[a]? = some (.inl (0, N, .inl f))) (e : i = nI j) (hj : j < N) (hN : N < 2 ^ 31) (K : Ev Ω d E nx lv (.int (f j) :: rest) h r h') : Ev Ω d E pc lv (.int i :: .ref a :: rest) h r h' := by
  subst e
  refine Ev.il hi ha (vp_in_nI hj hN) ?_
  rw [nI_clamp (by omega)]
  exact K
theorem Ev.bln {a N j : Nat} {f : Nat → Int32} {i : Int32} (hi : sn_tg E.2.1 pc = some (.baload, len, nx, tg)) (ha : h[a]? = some (.inl (2, N, .inl f))) (e : i = nI j) (hj : j < N) (hN : N < 2 ^ 31) (K : Ev Ω d E nx lv (.int (f j) :: rest) h r h') : Ev Ω d E pc lv (.int i :: .ref a :: rest) h r h' := by
  subst e
  refine Ev.bl hi ha (vp_in_nI hj hN) ?_
  rw [nI_clamp (by omega)]
  exact K
theorem Ev.lln {a N j : Nat} {f : Nat → Int64} {i : Int32} (hi : sn_tg E.2.1 pc = some (.laload, len, nx, tg)) (ha : h[a]? = some (.inl (1, N, .inr (.inl f)))) (e : i = nI j) (hj : j < N) (hN : N < 2 ^ 31) (K : Ev Ω d E nx lv (.long (f j) :: rest) h r h') : Ev Ω d E pc lv (.int i :: .ref a :: rest) h r h' := by
  subst e
  refine Ev.ll hi ha (vp_in_nI hj hN) ?_
  rw [nI_clamp (by omega)]
  exact K
theorem Ev.aln {a N t j b : Nat} {f : Nat → Option Nat} {i : Int32} (hi : sn_tg E.2.1 pc = some (.aaload, len, nx, tg)) (ht : t = 3 ∨ t = 4) (ha : h[a]? = some (.inl (t, N, .inr (.inr (.inr (.inr f)))))) (e : i = nI j) (hj : j < N) (hN : N < 2 ^ 31) (hb : f j = some b) (K : Ev Ω d E nx lv (.ref b :: rest) h r h') : Ev Ω d E pc lv (.int i :: .ref a :: rest) h r h' := by
  subst e
  refine Ev.same (fun _ _ _ _ _ _ _ kf _ K => sn_awAald kf (sn_tg_mem hi) ht ha (vp_in_nI hj hN) (by rw [nI_clamp (by omega), hb]; exact K)) K
theorem Ev.ln {a N t : Nat} {f : (Nat → Int32) ⊕ (Nat → Int64) ⊕ (Nat → UInt32) ⊕ (Nat → UInt64) ⊕ (Nat → Option Nat)} (hi : sn_tg E.2.1 pc = some (.arraylength, len, nx, tg)) (ha : h[a]? = some (.inl (t, N, f))) (ht : Nat.blt t 5 = true) (K : Ev Ω d E nx lv (.int (nI N) :: rest) h r h') : Ev Ω d E pc lv (.ref a :: rest) h r h' :=
  Ev.same (fun _ _ _ _ _ _ _ kf _ K => sn_awAlen kf (sn_tg_mem hi) (Nat.blt_eq.mp ht) ha K) K
theorem Ev.pf {idx ci j a : Nat} {fs : List Value} {v : Value} (hi : sn_tg E.2.1 pc = some (.putfield idx, len, nx, tg)) (lk : sn_LP E.1 idx ci j E.2.2) (ha : h[a]? = some (.inr (ci, fs))) (hl : Nat.blt j fs.length = true) (hty : sn_tyok (sn_cty ci j) v = true) (K : Ev Ω d E nx lv rest (h.set a (.inr (ci, fs.set j v))) r h') : Ev Ω d E pc lv (v :: .ref a :: rest) h r h' :=
  Ev.gen 0 0 (by rw [List.length_set]; rfl) (sn_hs_set ha (by simp [sn_sl])) (fun _ _ _ _ _ _ _ kf _ _ _ K => sn_awPut kf (sn_tg_mem hi) lk ha (Nat.blt_eq.mp hl) hty K) K
theorem Ev.isn {a N j : Nat} {f : Nat → Int32} {i x : Int32} (hi : sn_tg E.2.1 pc = some (.iastore, len, nx, tg)) (ha : h[a]? = some (.inl (0, N, .inl f))) (e : i = nI j) (hj : j < N) (hN : N < 2 ^ 31) (K : Ev Ω d E nx lv rest (h.set a (.inl (0, N, .inl (upd f j x)))) r h') : Ev Ω d E pc lv (.int x :: .int i :: .ref a :: rest) h r h' := by
  subst e
  refine Ev.gen 0 0 ?_ ?_ (fun _ _ _ _ _ _ _ kf _ _ _ K => sn_awIast kf (sn_tg_mem hi) ha (vp_in_nI hj hN) (by rw [nI_clamp (by omega)]; exact K)) K
  · rw [List.length_set]; rfl
  · exact sn_hs_set ha rfl
theorem Ev.bsn {a N j : Nat} {f : Nat → Int32} {i x : Int32} (hi : sn_tg E.2.1 pc = some (.bastore, len, nx, tg)) (ha : h[a]? = some (.inl (2, N, .inl f))) (e : i = nI j) (hj : j < N) (hN : N < 2 ^ 31) (K : Ev Ω d E nx lv rest (h.set a (.inl (2, N, .inl (upd f j x.toInt8.toInt32)))) r h') : Ev Ω d E pc lv (.int x :: .int i :: .ref a :: rest) h r h' := by
  subst e
  refine Ev.gen 0 0 ?_ ?_ (fun _ _ _ _ _ _ _ kf _ _ _ K => sn_awBast kf (sn_tg_mem hi) ha (vp_in_nI hj hN) (by rw [nI_clamp (by omega)]; exact K)) K
  · rw [List.length_set]; rfl
  · exact sn_hs_set ha rfl
theorem Ev.lsn {a N j : Nat} {f : Nat → Int64} {i : Int32} {x : Int64} (hi : sn_tg E.2.1 pc = some (.lastore, len, nx, tg)) (ha : h[a]? = some (.inl (1, N, .inr (.inl f)))) (e : i = nI j) (hj : j < N) (hN : N < 2 ^ 31) (K : Ev Ω d E nx lv rest (h.set a (.inl (1, N, .inr (.inl (vp_updL f j x))))) r h') : Ev Ω d E pc lv (.long x :: .int i :: .ref a :: rest) h r h' := by
  subst e
  refine Ev.gen 0 0 ?_ ?_ (fun _ _ _ _ _ _ _ kf _ _ _ K => sn_awLast kf (sn_tg_mem hi) ha (vp_in_nI hj hN) (by rw [nI_clamp (by omega)]; exact K)) K
  · rw [List.length_set]; rfl
  · exact sn_hs_set ha rfl
theorem Ev.asn {a N t b ci j : Nat} {fs : List Value} {f : Nat → Option Nat} {i : Int32} (hi : sn_tg E.2.1 pc = some (.aastore, len, nx, tg)) (hg : sn_asg t ci) (hc : ci < 10) (ha : h[a]? = some (.inl (t, N, .inr (.inr (.inr (.inr f)))))) (hb : h[b]? = some (.inr (ci, fs))) (e : i = nI j) (hj : j < N) (hN : N < 2 ^ 31) (K : Ev Ω d E nx lv rest (h.set a (.inl (t, N, .inr (.inr (.inr (.inr (va_up f j (some b)))))))) r h') : Ev Ω d E pc lv (.ref b :: .int i :: .ref a :: rest) h r h' := by
  subst e
  refine Ev.gen 0 0 ?_ ?_ (fun _ _ _ _ _ _ _ kf _ _ _ K => sn_awAast kf (sn_tg_mem hi) hc hg ha hb (vp_in_nI hj hN) (by rw [nI_clamp (by omega)]; exact K)) K
  · rw [List.length_set]; rfl
  · exact sn_hs_set ha rfl
theorem Ev.nw {idx ci : Nat} {fs : List Value} (hi : sn_tg E.2.1 pc = some (.new idx, len, nx, tg)) (lk : sn_LC E.1 idx ci fs) (K : Ev Ω d E nx lv (.ref h.length :: st) (h ++ [.inr (ci, fs)]) r h') : Ev Ω d E pc lv st h r h' :=
  Ev.gen 1 fs.length (by simp) (by rw [sn_hs_app]; rfl) (fun _ _ _ _ _ _ _ kf _ a b K => sn_awNew kf (sn_tg_mem hi) lk a b K) K
theorem Ev.na {t N : Nat} {i : Int32} (hi : sn_tg E.2.1 pc = some (.newarray (sn_nak t).1, len, nx, tg)) (ht : Nat.blt t 3 = true) (hac : Cond.arrayClass (sn_nak t).2 ∈ sn_gw) (e : i = nI N) (hN : N < 65536) (K : Ev Ω d E nx lv (.ref h.length :: rest) (h ++ [sn_nac t N]) r h') : Ev Ω d E pc lv (.int i :: rest) h r h' := by
  subst e
  have hs : sn_sl (sn_nac t N) = N := by unfold sn_nac; split <;> rfl
  exact Ev.gen 1 N (by simp) (by rw [sn_hs_app, hs]) (fun _ _ _ _ _ _ _ kf _ a b K => sn_awNewa kf (Nat.blt_eq.mp ht) (sn_tg_mem hi) hN hac a b K) K
theorem Ev.nq {t N idx : Nat} {i : Int32} (hi : sn_tg E.2.1 pc = some (.anewarray idx, len, nx, tg)) (ht : t = 3 ∨ t = 4) (hac : Cond.classLink (sn_rn E.1) idx (sn_nq t) ∈ sn_gw) (e : i = nI N) (hN : N < 65536) (K : Ev Ω d E nx lv (.ref h.length :: rest) (h ++ [.inl (t, N, .inr (.inr (.inr (.inr fun _ => none))))]) r h') : Ev Ω d E pc lv (.int i :: rest) h r h' := by
  subst e
  exact Ev.gen 1 N (by simp) (by rw [sn_hs_app]; rfl) (fun _ _ _ _ _ _ _ kf _ a b K => sn_awNewq kf ht (sn_tg_mem hi) hN hac a b K) K
theorem Ev.iy {idx ci a : Nat} {fs : List Value} (hi : sn_tg E.2.1 pc = some (.instanceof idx, len, nx, tg)) (lk : sn_LY E.1 idx ci) (ha : h[a]? = some (.inr (ci, fs))) (K : Ev Ω d E nx lv (.int 1 :: rest) h r h') : Ev Ω d E pc lv (.ref a :: rest) h r h' :=
  Ev.same (fun _ _ _ _ _ _ _ kf _ K => sn_awInstY kf (sn_tg_mem hi) lk ha K) K
theorem Ev.in {idx ci a : Nat} {fs : List Value} (hi : sn_tg E.2.1 pc = some (.instanceof idx, len, nx, tg)) (lk : sn_LN E.1 idx ci) (ha : h[a]? = some (.inr (ci, fs))) (K : Ev Ω d E nx lv (.int 0 :: rest) h r h') : Ev Ω d E pc lv (.ref a :: rest) h r h' :=
  Ev.same (fun _ _ _ _ _ _ _ kf _ K => sn_awInstN kf (sn_tg_mem hi) lk ha K) K
theorem Ev.cc {idx ci a : Nat} {fs : List Value} (hi : sn_tg E.2.1 pc = some (.checkcast idx, len, nx, tg)) (lk : sn_LY E.1 idx ci) (ha : h[a]? = some (.inr (ci, fs))) (K : Ev Ω d E nx lv (.ref a :: rest) h r h') : Ev Ω d E pc lv (.ref a :: rest) h r h' :=
  Ev.same (fun _ _ _ _ _ _ _ kf _ K => sn_awCast kf (sn_tg_mem hi) lk ha K) K
theorem Ev.oi {idx a : Nat} (hi : sn_tg E.2.1 pc = some (.invokespecial idx, len, nx, tg)) (lk : Cond.methodLink (sn_rn E.1) idx Lib.objectInit ∈ sn_gw) (lk2 : Cond.instanceMethod Lib.objectInit ∈ sn_gw) (lk3 : Cond.code Lib.objectInit ⟨#[0xb1]⟩ 1 none ∈ sn_gw) (hct : Nat.ble (sn_cts rest) 8 = true) (K : Ev Ω (d + 1) E nx lv rest h r h') : Ev Ω (d + 1) E pc lv (.ref a :: rest) h r h' :=
  Ev.same (fun _ _ _ _ _ _ _ kf _ K => sn_awObj kf (sn_tg_mem hi) lk lk2 lk3 (sn_ctk hct) K) K
theorem Ev.ki {idx a0 a1 N0 N1 j : Nat} {f g : Nat → Int32} {cn : Int32} (hi : sn_tg E.2.1 pc = some (.invokestatic idx, len, nx, tg)) (lk : sn_LA E.1 idx) (ha0 : h[a0]? = some (.inl (0, N0, .inl f))) (ha1 : h[a1]? = some (.inl (0, N1, .inl g))) (e : cn = nI j) (h4 : j ≤ N0) (h5 : j ≤ N1) (hN : N0 < 2 ^ 31) (hct : Nat.ble (sn_cts rest) 8 = true)
    (K : Ev Ω (d + 1) E nx lv rest (h.set a1 (.inl (0, N1, .inl (va_cpy f g 0 0 j)))) r h') : Ev Ω (d + 1) E pc lv (.int cn :: .int (nI 0) :: .ref a1 :: .int (nI 0) :: .ref a0 :: rest) h r h' := by
  subst e
  have hc : (nI j).toNatClampNeg = j := nI_clamp (by omega)
  refine Ev.gen 0 0 ?_ ?_ (fun _ _ _ _ _ _ _ kf _ _ _ K => sn_awCpI kf (sn_tg_mem hi) lk ha0 ha1 (nI_pos (by omega)) (by rw [hc]; exact h4) (by rw [hc]; exact h5) (sn_ctk hct) (by rw [hc]; exact K)) K
  · rw [List.length_set]; rfl
  · exact sn_hs_set ha1 rfl
theorem Ev.kl {idx a0 a1 N0 N1 j : Nat} {f g : Nat → Int64} {cn : Int32} (hi : sn_tg E.2.1 pc = some (.invokestatic idx, len, nx, tg)) (lk : sn_LA E.1 idx) (ha0 : h[a0]? = some (.inl (1, N0, .inr (.inl f)))) (ha1 : h[a1]? = some (.inl (1, N1, .inr (.inl g)))) (e : cn = nI j) (h4 : j ≤ N0) (h5 : j ≤ N1) (hN : N0 < 2 ^ 31) (hct : Nat.ble (sn_cts rest) 8 = true)
    (K : Ev Ω (d + 1) E nx lv rest (h.set a1 (.inl (1, N1, .inr (.inl (va_cpy f g 0 0 j))))) r h') : Ev Ω (d + 1) E pc lv (.int cn :: .int (nI 0) :: .ref a1 :: .int (nI 0) :: .ref a0 :: rest) h r h' := by
  subst e
  have hc : (nI j).toNatClampNeg = j := nI_clamp (by omega)
  refine Ev.gen 0 0 ?_ ?_ (fun _ _ _ _ _ _ _ kf _ _ _ K => sn_awCpL kf (sn_tg_mem hi) lk ha0 ha1 (nI_pos (by omega)) (by rw [hc]; exact h4) (by rw [hc]; exact h5) (sn_ctk hct) (by rw [hc]; exact K)) K
  · rw [List.length_set]; rfl
  · exact sn_hs_set ha1 rfl
theorem sn_subS {h h1 : sn_H} (c : h.length ≤ h1.length ∧ sn_hs h ≤ sn_hs h1) : h1.length = h.length + (h1.length - h.length) ∧ sn_hs h1 = sn_hs h + (sn_hs h1 - sn_hs h) := ⟨by omega, by omega⟩
theorem Ev.csr {idx nA : Nat} {E' : sn_E} {as : List Value} {v : Option Value} {h1 : sn_H} (hi : sn_tg E.2.1 pc = some (.invokestatic idx, len, nx, tg)) (mk : sn_MK E'.2.2 nA) (lk : sn_LS E.1 idx E'.2.2) (hsp : sn_spl nA st [] = some (as, rest)) (hct : Nat.ble (sn_cts rest) 8 = true) (hS : Sp d E' as h v h1) (K : Ev Ω (d + 1) E nx lv (v.toList ++ rest) h1 r h') : Ev Ω (d + 1) E pc lv st h r h' := by
  obtain ⟨e1, e2⟩ := sn_spl_ok hsp
  have e1 : as.reverse ++ rest = st := e1
  subst e1
  exact Ev.gen _ _ (sn_subS hS.1).1 (sn_subS hS.1).2 (fun γ κ _ _ _ _ _ kf _ a b K => sn_awS kf (sn_tg_mem hi) mk lk e2 (sn_ctk hct) (hS.2 γ κ.2.1) a b K) K
theorem Ev.cs {idx nA : Nat} {E' : sn_E} {as : List Value} {v : Value} {h1 : sn_H} (hi : sn_tg E.2.1 pc = some (.invokestatic idx, len, nx, tg)) (mk : sn_MK E'.2.2 nA) (lk : sn_LS E.1 idx E'.2.2) (hsp : sn_spl nA st [] = some (as, rest)) (hct : Nat.ble (sn_cts rest) 8 = true) (hS : Sp d E' as h (some v) h1) (K : Ev Ω (d + 1) E nx lv (v :: rest) h1 r h') : Ev Ω (d + 1) E pc lv st h r h' := Ev.csr hi mk lk hsp hct hS K
theorem Ev.cs0 {idx nA : Nat} {E' : sn_E} {as : List Value} {h1 : sn_H} (hi : sn_tg E.2.1 pc = some (.invokestatic idx, len, nx, tg)) (mk : sn_MK E'.2.2 nA) (lk : sn_LS E.1 idx E'.2.2) (hsp : sn_spl nA st [] = some (as, rest)) (hct : Nat.ble (sn_cts rest) 8 = true) (hS : Sp d E' as h none h1) (K : Ev Ω (d + 1) E nx lv rest h1 r h') : Ev Ω (d + 1) E pc lv st h r h' := Ev.csr hi mk lk hsp hct hS K
theorem Ev.ci {idx nA a : Nat} {E' : sn_E} {as : List Value} {h1 : sn_H} (hi : sn_tg E.2.1 pc = some (.invokespecial idx, len, nx, tg)) (mk : sn_MK E'.2.2 nA) (lk : sn_LI E.1 idx E'.2.2) (hsp : sn_spl nA st [] = some (as, .ref a :: rest)) (ha : 0 < a) (hct : Nat.ble (sn_cts rest) 8 = true) (hS : Sp d E' (.ref a :: as) h none h1) (K : Ev Ω (d + 1) E nx lv rest h1 r h') : Ev Ω (d + 1) E pc lv st h r h' := by
  obtain ⟨e1, e2⟩ := sn_spl_ok hsp
  have e1 : as.reverse ++ .ref a :: rest = st := e1
  subst e1
  exact Ev.gen _ _ (sn_subS hS.1).1 (sn_subS hS.1).2 (fun γ κ _ _ _ _ _ kf _ a2 b K => sn_awI kf (sn_tg_mem hi) mk lk (show a = a - 1 + 1 by omega) e2 (sn_ctk hct) (hS.2 γ κ.2.1) a2 b K) K
theorem Ev.cvr {idx nA ci a : Nat} {fs : List Value} {E' : sn_E} {as : List Value} {v : Option Value} {h1 : sn_H} (hi : sn_tg E.2.1 pc = some (.invokevirtual idx, len, nx, tg)) (mk : sn_MK E'.2.2 nA) (lk : sn_LV E.1 idx ci E'.2.2 nA) (hsp : sn_spl nA st [] = some (as, .ref a :: rest)) (ha : h[a]? = some (.inr (ci, fs))) (hct : Nat.ble (sn_cts rest) 8 = true) (hS : Sp d E' (.ref a :: as) h v h1) (K : Ev Ω (d + 1) E nx lv (v.toList ++ rest) h1 r h') : Ev Ω (d + 1) E pc lv st h r h' := by
  obtain ⟨e1, e2⟩ := sn_spl_ok hsp
  have e1 : as.reverse ++ .ref a :: rest = st := e1
  subst e1
  exact Ev.gen _ _ (sn_subS hS.1).1 (sn_subS hS.1).2 (fun γ κ _ _ _ _ _ kf _ a2 b K => sn_awV kf (sn_tg_mem hi) mk lk ha e2 (sn_ctk hct) (hS.2 γ κ.2.1) a2 b K) K
theorem Ev.cv {idx nA ci a : Nat} {fs : List Value} {E' : sn_E} {as : List Value} {v : Value} {h1 : sn_H} (hi : sn_tg E.2.1 pc = some (.invokevirtual idx, len, nx, tg)) (mk : sn_MK E'.2.2 nA) (lk : sn_LV E.1 idx ci E'.2.2 nA) (hsp : sn_spl nA st [] = some (as, .ref a :: rest)) (ha : h[a]? = some (.inr (ci, fs))) (hct : Nat.ble (sn_cts rest) 8 = true) (hS : Sp d E' (.ref a :: as) h (some v) h1) (K : Ev Ω (d + 1) E nx lv (v :: rest) h1 r h') : Ev Ω (d + 1) E pc lv st h r h' := Ev.cvr hi mk lk hsp ha hct hS K
theorem Ev.cv0 {idx nA ci a : Nat} {fs : List Value} {E' : sn_E} {as : List Value} {h1 : sn_H} (hi : sn_tg E.2.1 pc = some (.invokevirtual idx, len, nx, tg)) (mk : sn_MK E'.2.2 nA) (lk : sn_LV E.1 idx ci E'.2.2 nA) (hsp : sn_spl nA st [] = some (as, .ref a :: rest)) (ha : h[a]? = some (.inr (ci, fs))) (hct : Nat.ble (sn_cts rest) 8 = true) (hS : Sp d E' (.ref a :: as) h none h1) (K : Ev Ω (d + 1) E nx lv rest h1 r h') : Ev Ω (d + 1) E pc lv st h r h' := Ev.cvr hi mk lk hsp ha hct hS K
end EV
