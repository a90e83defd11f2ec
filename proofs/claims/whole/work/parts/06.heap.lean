/-! CELLS: fields, arrays, new ones -/
def sn_cty (ci : Nat) : Nat → FieldType := match ci with
  | 0 => ty_0
  | 1 => ty_1
  | 2 => ty_2
  | 3 => ty_3
  | 4 => ty_4
  | 5 => ty_5
  | 6 => ty_6
  | 7 => ty_7
  | 8 => ty_8
  | _ => ty_9
/-- a class of the list: its words, its fields' types, its fields' names apart -/
def sn_CK (ci : Nat) (q : vw_C) : Prop := sn_cls[ci]? = some q ∧ (∀ w ∈ u_ws q.1 q.2.1 q.2.2, w ∈ sn_gw) ∧ (∀ k, k < q.2.2 → parseFieldDescriptor (q.2.1 k).2.2.1 = some (sn_cty ci k)) ∧ ∀ a, a < q.2.2 → ∀ b, b < q.2.2 → a ≠ b → (q.2.1 a).2.1 ≠ (q.2.1 b).2.1
def sn_LF (o idx ci j : Nat) : Prop := ∃ (q : vw_C) (ref : String), sn_CK ci q ∧ j < q.2.2 ∧ Cond.fieldLink (sn_rn o) idx ref (q.2.1 j).2.1 (q.2.1 j).2.2.1 ∈ sn_gw ∧ (ref = (q.2.1 j).1 ∨ Cond.sameField ref (q.2.1 j).1 (q.2.1 j).2.1 (q.2.1 j).2.2.1 ∈ sn_gw)
/-- a field may be written there: it isn't final, or the method is a constructor of its class -/
def sn_LP (o idx ci j : Nat) (M : sn_Md) : Prop := sn_LF o idx ci j ∧ ∀ q : vw_C, sn_cls[ci]? = some q → (q.2.1 j).2.2.2 = false ∨ ((q.2.1 j).2.2.2 = true ∧ M.1.name = "<init>" ∧ (q.2.1 j).1 = sn_rn o)
def sn_tyok (ty : FieldType) (v : Value) : Bool := match ty, v with
  | .int, .int _ => true
  | .long, .long _ => true
  | .array _, .ref _ => true
  | .object _, .ref _ => true
  | _, _ => false
theorem sn_tyok_ok {γ : sn_G} {ty : FieldType} {v : Value} (h : sn_tyok ty v = true) : narrow ty (sn_tr γ v) = sn_tr γ v ∧ fits ty (sn_tr γ v) = true := by
  unfold sn_tyok at h
  split at h <;> first | exact ⟨rfl, rfl⟩ | cases h
theorem sn_same {γ : sn_G} {κ : sn_K} {o : Nat} {tab : sn_Tb} {M : sn_Md} {d mc ms : Nat} (kf : sn_KF γ κ o tab M d mc ms) {ref own n ds : String} (h : ref = own ∨ Cond.sameField ref own n ds ∈ sn_gw) : ∀ x, κ.2.2.2.2.1.fieldFound? own n ds = some x → κ.2.2.2.2.1.fieldFound? ref n ds = some x := by
  intro x hx
  rcases h with rfl | h
  · exact hx
  · exact u_same (kf.2.2.2.2.1 _ h) x hx
section AW
variable {γ : sn_G} {κ : sn_K} {o : Nat} {tab : sn_Tb} {M : sn_Md} {d mc ms : Nat} {Q : State → Prop} {h : sn_H} {pc : Nat} {lv rest : List Value} {n k : Nat} {len nx tg : Nat}
theorem sn_awGet (kf : sn_KF γ κ o tab M d mc ms) {idx : Nat} (hi : (pc, .getfield idx, len, nx, tg) ∈ tab) {ci j a : Nat} {fs : List Value} {v : Value} (lk : sn_LF o idx ci j) (ha : h[a]? = some (.inr (ci, fs))) (hv : fs[j]? = some v) (K : sn_AW γ κ M.2.2.1 Q h nx lv (v :: rest) n k) : sn_AW γ κ M.2.2.1 Q h pc lv (.ref a :: rest) n k := by
  intro H locs ls hR hl hS
  have sm := fun {ref own n ds : String} h => sn_same (ref := ref) (own := own) (n := n) (ds := ds) kf h
  obtain ⟨hx, hb, hml, hown, hts, hGK, hsz, hlk, hrt, hT, hrm, hnm⟩ := kf
  obtain ⟨p, l, e, R, s, m, args, below, meth, c⟩ := κ
  obtain ⟨hd, hj⟩ := hT _ hi
  have hnx := sn_jok_nx hj
  have hn := sn_jok_len hj (by simp [sn_len])
  subst hn; subst hnx
  obtain ⟨i, rfl⟩ := hR.ne0 ha (fun q => by cases q)
  have hat := hR.2.2 i _ ha
  obtain ⟨⟨C, T, N⟩, ref, hck, hj2, hlink, hsm⟩ := lk
  exact va_get (D := γ.1) (cl := sn_cls) (v := sn_tr γ v) hx hb hts hck.2.1 hown hGK.1 (sn_va_P1 hat) 0 rfl hck.1 j hj2 (hts _ hlink) (sm hsm) (by rw [List.getElem?_map, hv]; rfl) hd (K H locs ls hR hl hS)
theorem sn_awPut (kf : sn_KF γ κ o tab M d mc ms) {idx : Nat} (hi : (pc, .putfield idx, len, nx, tg) ∈ tab) {ci j a : Nat} {fs : List Value} {v : Value} (lk : sn_LP o idx ci j M) (ha : h[a]? = some (.inr (ci, fs))) (hfl : j < fs.length) (hty : sn_tyok (sn_cty ci j) v = true) (K : sn_AW γ κ M.2.2.1 Q (h.set a (.inr (ci, fs.set j v))) nx lv rest n k) : sn_AW γ κ M.2.2.1 Q h pc lv (v :: .ref a :: rest) n k := by
  intro H locs ls hR hl hS
  have sm := fun {ref own n ds : String} h => sn_same (ref := ref) (own := own) (n := n) (ds := ds) kf h
  obtain ⟨hx, hb, hml, hown, hts, hGK, hsz, hlk, hrt, hT, hrm, hnm⟩ := kf
  obtain ⟨p, l, e, R, s, m, args, below, meth, c⟩ := κ
  obtain ⟨hd, hj⟩ := hT _ hi
  have hnx := sn_jok_nx hj
  have hn := sn_jok_len hj (by simp [sn_len])
  subst hn; subst hnx
  obtain ⟨i, rfl⟩ := hR.ne0 ha (fun q => by cases q)
  have hat := hR.2.2 i _ ha
  obtain ⟨⟨⟨C, T, N⟩, ref, hck, hk, hlink, hsm⟩, hfin⟩ := lk
  obtain ⟨hc, hin, hty0, hnm0⟩ := hck
  have hfin := hfin _ hc
  dsimp only at *
  have hK := hGK.1
  have hap := va_apart (own := sn_rn o) hts hin (sn_cty ci) hty0 hnm0 hK hc
  obtain ⟨r, h1, cell, q1, q2, q3, q4⟩ := hat
  have hr : r = (C, T, N) := Option.some.inj (h1.symm.trans hc)
  subst hr
  obtain ⟨hSl, hfc, kC, hkC, hkind⟩ := hK.1 ci _ hc
  obtain ⟨cf, kf, fi, f, hif, hsl⟩ := hSl j hk
  have hlay := hts _ (hin _ (u_in_lay hk))
  have hst := (u_facts hfc hkC (u_lays hts hin hk) hif).1
  obtain ⟨hna, hfi⟩ := sn_tyok_ok (γ := γ) hty
  have hlm : j < (fs.map (sn_tr γ)).length := by rw [List.length_map]; exact hfl
  have fin : ∀ (H' : Heap), H'[γ.2.2.2 + i]? = some (cell.setSlot f.slot (sn_tr γ v)) → H'.size = H.size → (∀ q, q ≠ γ.2.2.2 + i → H'[q]? = H[q]?) → W p l e R s m args below meth c H' (locs ++ [⟨γ.2.2.2 + i, f.slot⟩]) n k Q (F0 m (pc + 3) ls (rest.map (sn_tr γ))) := by
    intro H' e1 e2 e3
    refine K H' _ ls (hR.set ha ?_ e2 e3) hl (hS.put e2 e3 (Nat.le_add_right _ _))
    rw [hsl] at e1
    refine ⟨_, hc, t_OB.to (V := updV (vp_V (fs.map (sn_tr γ))) j (sn_tr γ v)) ⟨_, e1, q2, q3, t_set q4 hap hk (sn_tr γ v)⟩ (fun x _ => ?_)⟩
    rw [List.map_set]
    exact vp_updV_set hlm (sn_tr γ v) x
  rcases hfin with hfin | ⟨hfin, hin2, hdecl⟩
  · unfold u_lay at hlay
    rw [if_neg (by rw [hfin]; decide)] at hlay
    have h6 := u_store hfc hkC hkind hlay hif (hty0 j hk) hna hfi
    exact W.putK hx hb (f := f) ⟨hown, hts _ hlink, ⟨_, _, _, sm hsm _ hif⟩, hst⟩ (by rw [q2]; exact h6) q1 q3 (by rw [hsl]; exact k2_hasslot (q4 j hk)) rfl rfl hd fin
  · unfold u_lay at hlay
    rw [if_pos hfin] at hlay
    have hcf : m.cls = cf := by
      obtain ⟨_, _, c', _, _, _, -, -, hf', -, -, -, hown2, -⟩ := Cond.laysFinal_spec hlay
      have e1 : c' = cf := by have := hif.symm.trans hf'; simp at this; exact this.1.symm
      rw [hdecl] at hown2
      rw [← e1]; exact Option.some.inj (hown.symm.trans hown2)
    have h6 := u_fits hfc hkC hkind (Or.inr hlay) hif (hty0 j hk) hna hfi
    exact W.putFinK hx hb hown (hts _ hlink) (sm hsm _ hif) hst hcf (hnm.trans hin2) (by rw [q2]; exact h6) q1 q3 (by rw [hsl]; exact k2_hasslot (q4 j hk)) rfl rfl hd fin
theorem sn_awIald (kf : sn_KF γ κ o tab M d mc ms) (hi : (pc, .iaload, len, nx, tg) ∈ tab) {a N : Nat} {f : Nat → Int32} {i : Int32} (ha : h[a]? = some (.inl (0, N, .inl f))) (hin : vp_in i N) (K : sn_AW γ κ M.2.2.1 Q h nx lv (.int (f i.toNatClampNeg) :: rest) n k) : sn_AW γ κ M.2.2.1 Q h pc lv (.int i :: .ref a :: rest) n k := by
  intro H locs ls hR hl hS
  obtain ⟨hx, hb, hml, hown, hts, hGK, hsz, hlk, hrt, hT, hrm, hnm⟩ := kf
  obtain ⟨p, l, e, R, s, m, args, below, meth, c⟩ := κ
  obtain ⟨hd, hj⟩ := hT _ hi
  have hnx := sn_jok_nx hj
  have hn := sn_jok_len hj (by simp [sn_len])
  subst hn; subst hnx
  obtain ⟨z, rfl⟩ := hR.ne0 ha (fun q => by cases q)
  exact va_iald hx hb hGK.1 (sn_va_P1 (hR.2.2 z _ ha)) 0 0 rfl rfl hin hd (K H locs ls hR hl hS)
theorem sn_awBald (kf : sn_KF γ κ o tab M d mc ms) (hi : (pc, .baload, len, nx, tg) ∈ tab) {a N : Nat} {f : Nat → Int32} {i : Int32} (ha : h[a]? = some (.inl (2, N, .inl f))) (hin : vp_in i N) (K : sn_AW γ κ M.2.2.1 Q h nx lv (.int (f i.toNatClampNeg) :: rest) n k) : sn_AW γ κ M.2.2.1 Q h pc lv (.int i :: .ref a :: rest) n k := by
  intro H locs ls hR hl hS
  obtain ⟨hx, hb, hml, hown, hts, hGK, hsz, hlk, hrt, hT, hrm, hnm⟩ := kf
  obtain ⟨p, l, e, R, s, m, args, below, meth, c⟩ := κ
  obtain ⟨hd, hj⟩ := hT _ hi
  have hnx := sn_jok_nx hj
  have hn := sn_jok_len hj (by simp [sn_len])
  subst hn; subst hnx
  obtain ⟨z, rfl⟩ := hR.ne0 ha (fun q => by cases q)
  exact va_bald hx hb hGK.1 (sn_va_P1 (hR.2.2 z _ ha)) 0 2 rfl rfl hin hd (K H locs ls hR hl hS)
theorem sn_awLald (kf : sn_KF γ κ o tab M d mc ms) (hi : (pc, .laload, len, nx, tg) ∈ tab) {a N : Nat} {f : Nat → Int64} {i : Int32} (ha : h[a]? = some (.inl (1, N, .inr (.inl f)))) (hin : vp_in i N) (K : sn_AW γ κ M.2.2.1 Q h nx lv (.long (f i.toNatClampNeg) :: rest) n k) : sn_AW γ κ M.2.2.1 Q h pc lv (.int i :: .ref a :: rest) n k := by
  intro H locs ls hR hl hS
  obtain ⟨hx, hb, hml, hown, hts, hGK, hsz, hlk, hrt, hT, hrm, hnm⟩ := kf
  obtain ⟨p, l, e, R, s, m, args, below, meth, c⟩ := κ
  obtain ⟨hd, hj⟩ := hT _ hi
  have hnx := sn_jok_nx hj
  have hn := sn_jok_len hj (by simp [sn_len])
  subst hn; subst hnx
  obtain ⟨z, rfl⟩ := hR.ne0 ha (fun q => by cases q)
  exact va_lald hx hb hGK.1 (sn_va_P1 (hR.2.2 z _ ha)) 0 1 rfl rfl hin hd (K H locs ls hR hl hS)
theorem sn_awAald (kf : sn_KF γ κ o tab M d mc ms) (hi : (pc, .aaload, len, nx, tg) ∈ tab) {a N t : Nat} {f : Nat → Option Nat} {i : Int32} (ht : t = 3 ∨ t = 4) (ha : h[a]? = some (.inl (t, N, .inr (.inr (.inr (.inr f)))))) (hin : vp_in i N) (K : sn_AW γ κ M.2.2.1 Q h nx lv (va_rf (f i.toNatClampNeg) :: rest) n k) : sn_AW γ κ M.2.2.1 Q h pc lv (.int i :: .ref a :: rest) n k := by
  intro H locs ls hR hl hS
  obtain ⟨hx, hb, hml, hown, hts, hGK, hsz, hlk, hrt, hT, hrm, hnm⟩ := kf
  obtain ⟨p, l, e, R, s, m, args, below, meth, c⟩ := κ
  obtain ⟨hd, hj⟩ := hT _ hi
  have hnx := sn_jok_nx hj
  have hn := sn_jok_len hj (by simp [sn_len])
  subst hn; subst hnx
  obtain ⟨z, rfl⟩ := hR.ne0 ha (fun q => by cases q)
  have K2 := K H locs ls hR hl hS
  have e1 : sn_tr γ (va_rf (f i.toNatClampNeg)) = va_rf ((f i.toNatClampNeg).map (sn_ad γ.2.2.1 γ.2.2.2)) := by cases f i.toNatClampNeg <;> rfl
  rw [List.map_cons, e1] at K2
  rcases ht with rfl | rfl
  · exact va_aldq hx hb hGK.1 (sn_va_P1 (hR.2.2 z _ ha)) 0 3 rfl rfl hin hd K2
  · exact va_aldq hx hb hGK.1 (sn_va_P1 (hR.2.2 z _ ha)) 0 4 rfl rfl hin hd K2
theorem sn_awAlen (kf : sn_KF γ κ o tab M d mc ms) (hi : (pc, .arraylength, len, nx, tg) ∈ tab) {a N t : Nat} {f : (Nat → Int32) ⊕ (Nat → Int64) ⊕ (Nat → UInt32) ⊕ (Nat → UInt64) ⊕ (Nat → Option Nat)} (ht : t < 5) (ha : h[a]? = some (.inl (t, N, f))) (K : sn_AW γ κ M.2.2.1 Q h nx lv (.int (nI N) :: rest) n k) : sn_AW γ κ M.2.2.1 Q h pc lv (.ref a :: rest) n k := by
  intro H locs ls hR hl hS
  obtain ⟨hx, hb, hml, hown, hts, hGK, hsz, hlk, hrt, hT, hrm, hnm⟩ := kf
  obtain ⟨p, l, e, R, s, m, args, below, meth, c⟩ := κ
  obtain ⟨hd, hj⟩ := hT _ hi
  have hnx := sn_jok_nx hj
  have hn := sn_jok_len hj (by simp [sn_len])
  subst hn; subst hnx
  obtain ⟨z, rfl⟩ := hR.ne0 ha (fun q => by cases q; omega)
  have hty : ∃ ty, (sn_tys γ)[t]? = some (γ.2.1 t, ty) := by
    rcases t with _ | _ | _ | _ | _ | t
    · exact ⟨_, rfl⟩
    · exact ⟨_, rfl⟩
    · exact ⟨_, rfl⟩
    · exact ⟨_, rfl⟩
    · exact ⟨_, rfl⟩
    · omega
  obtain ⟨ty, hty⟩ := hty
  have hat := hR.2.2 z _ ha
  rcases f with f | f | f | f | f
  · exact va_alen hx hb hGK.1 (sn_va_P1 hat) 0 t rfl hty rfl hd (K H locs ls hR hl hS)
  · exact va_alen hx hb hGK.1 (sn_va_P1 hat) 0 t rfl hty rfl hd (K H locs ls hR hl hS)
  · exact va_alen hx hb hGK.1 (sn_va_P1 hat) 0 t rfl hty rfl hd (K H locs ls hR hl hS)
  · exact va_alen hx hb hGK.1 (sn_va_P1 hat) 0 t rfl hty rfl hd (K H locs ls hR hl hS)
  · exact va_alen hx hb hGK.1 (sn_va_P1 hat) 0 t rfl hty rfl hd (K H locs ls hR hl hS)
theorem sn_awIast (kf : sn_KF γ κ o tab M d mc ms) (hi : (pc, .iastore, len, nx, tg) ∈ tab) {a N : Nat} {f : Nat → Int32} {i x : Int32} (ha : h[a]? = some (.inl (0, N, .inl f))) (hin : vp_in i N) (K : sn_AW γ κ M.2.2.1 Q (h.set a (.inl (0, N, .inl (upd f i.toNatClampNeg x)))) nx lv rest n k) : sn_AW γ κ M.2.2.1 Q h pc lv (.int x :: .int i :: .ref a :: rest) n k := by
  intro H locs ls hR hl hS
  obtain ⟨hx, hb, hml, hown, hts, hGK, hsz, hlk, hrt, hT, hrm, hnm⟩ := kf
  obtain ⟨p, l, e, R, s, m, args, below, meth, c⟩ := κ
  obtain ⟨hd, hj⟩ := hT _ hi
  have hnx := sn_jok_nx hj
  have hn := sn_jok_len hj (by simp [sn_len])
  subst hn; subst hnx
  obtain ⟨z, rfl⟩ := hR.ne0 ha (fun q => by cases q)
  refine W.iast hx hb (hR.2.2 z _ ha) ((hGK.1.2 0 _ rfl).1 N (fun j => .int (f j))) (fun q => by cases q) (by show ¬ (i < 0 ∨ (arrV _ _ _).slots.size ≤ _); rw [arrV_size]; exact hin) rfl rfl hd fun H1 e z2 oq => ?_
  refine K H1 _ ls (hR.set ha ?_ z2 oq) hl (hS.put z2 oq (Nat.le_add_right _ _))
  show H1[_]? = some (vp_cell _ _)
  rw [e]
  show some ((vp_cell (γ.2.1 0) (N, .inl f)).setSlot _ _) = _
  rw [vp_cell_i, vp_cell_i, arrV_store]
  congr 2
  funext q
  by_cases hq : q = i.toNatClampNeg
  · subst hq
    simp [updV, upd]
  · simp [updV, upd, hq]
theorem sn_awBast (kf : sn_KF γ κ o tab M d mc ms) (hi : (pc, .bastore, len, nx, tg) ∈ tab) {a N : Nat} {f : Nat → Int32} {i x : Int32} (ha : h[a]? = some (.inl (2, N, .inl f))) (hin : vp_in i N) (K : sn_AW γ κ M.2.2.1 Q (h.set a (.inl (2, N, .inl (upd f i.toNatClampNeg x.toInt8.toInt32)))) nx lv rest n k) : sn_AW γ κ M.2.2.1 Q h pc lv (.int x :: .int i :: .ref a :: rest) n k := by
  intro H locs ls hR hl hS
  obtain ⟨hx, hb, hml, hown, hts, hGK, hsz, hlk, hrt, hT, hrm, hnm⟩ := kf
  obtain ⟨p, l, e, R, s, m, args, below, meth, c⟩ := κ
  obtain ⟨hd, hj⟩ := hT _ hi
  have hnx := sn_jok_nx hj
  have hn := sn_jok_len hj (by simp [sn_len])
  subst hn; subst hnx
  obtain ⟨z, rfl⟩ := hR.ne0 ha (fun q => by cases q)
  refine W.bast hx hb (hR.2.2 z _ ha) ((hGK.1.2 2 _ rfl).1 N (fun j => .int (f j))) (fun q => by cases q) (by show ¬ (i < 0 ∨ (arrV _ _ _).slots.size ≤ _); rw [arrV_size]; exact hin) rfl rfl hd fun H1 e z2 oq => ?_
  refine K H1 _ ls (hR.set ha ?_ z2 oq) hl (hS.put z2 oq (Nat.le_add_right _ _))
  show H1[_]? = some (vp_cell _ _)
  rw [e]
  show some ((vp_cell (γ.2.1 2) (N, .inl f)).setSlot _ _) = _
  rw [vp_cell_i, vp_cell_i, arrV_store]
  congr 2
  funext q
  by_cases hq : q = i.toNatClampNeg
  · subst hq
    simp [updV, upd, narrow]
  · simp [updV, upd, hq]
theorem sn_awLast (kf : sn_KF γ κ o tab M d mc ms) (hi : (pc, .lastore, len, nx, tg) ∈ tab) {a N : Nat} {f : Nat → Int64} {i : Int32} {x : Int64} (ha : h[a]? = some (.inl (1, N, .inr (.inl f)))) (hin : vp_in i N) (K : sn_AW γ κ M.2.2.1 Q (h.set a (.inl (1, N, .inr (.inl (vp_updL f i.toNatClampNeg x))))) nx lv rest n k) : sn_AW γ κ M.2.2.1 Q h pc lv (.long x :: .int i :: .ref a :: rest) n k := by
  intro H locs ls hR hl hS
  obtain ⟨hx, hb, hml, hown, hts, hGK, hsz, hlk, hrt, hT, hrm, hnm⟩ := kf
  obtain ⟨p, l, e, R, s, m, args, below, meth, c⟩ := κ
  obtain ⟨hd, hj⟩ := hT _ hi
  have hnx := sn_jok_nx hj
  have hn := sn_jok_len hj (by simp [sn_len])
  subst hn; subst hnx
  obtain ⟨z, rfl⟩ := hR.ne0 ha (fun q => by cases q)
  refine W.last hx hb (hR.2.2 z _ ha) ((hGK.1.2 1 _ rfl).1 N (fun j => .long (f j))) (fun q => by cases q) (by show ¬ (i < 0 ∨ (arrV _ _ _).slots.size ≤ _); rw [arrV_size]; exact hin) rfl rfl hd fun H1 e z2 oq => ?_
  refine K H1 _ ls (hR.set ha ?_ z2 oq) hl (hS.put z2 oq (Nat.le_add_right _ _))
  show H1[_]? = some (vp_cell _ _)
  rw [e]
  show some ((vp_cell (γ.2.1 1) (N, .inr (.inl f))).setSlot _ _) = _
  rw [vp_cell_l, vp_cell_l, arrV_store]
  congr 2
  funext q
  by_cases hq : q = i.toNatClampNeg
  · subst hq
    simp [updV, vp_updL]
  · simp [updV, vp_updL, hq]
/-- an object of class ci may lie in a row of kind t -/
def sn_asg (t ci : Nat) : Prop := (t = 3 ∧ ci = 2) ∨ (t = 4 ∧ ∃ q : vw_C, sn_cls[ci]? = some q ∧ Cond.castable q.1 "SureNoes$Book" ∈ lw_tbl)
theorem sn_awAast (kf : sn_KF γ κ o tab M d mc ms) (hi : (pc, .aastore, len, nx, tg) ∈ tab) {a N t b ci : Nat} {fs : List Value} {f : Nat → Option Nat} {i : Int32} (hc : ci < 10) (hg : sn_asg t ci) (ha : h[a]? = some (.inl (t, N, .inr (.inr (.inr (.inr f)))))) (hbb : h[b]? = some (.inr (ci, fs))) (hin : vp_in i N) (K : sn_AW γ κ M.2.2.1 Q (h.set a (.inl (t, N, .inr (.inr (.inr (.inr (va_up f i.toNatClampNeg (some b)))))))) nx lv rest n k) : sn_AW γ κ M.2.2.1 Q h pc lv (.ref b :: .int i :: .ref a :: rest) n k := by
  intro H locs ls hR hl hS
  obtain ⟨hx, hb, hml, hown, hts, hGK, hsz, hlk, hrt, hT, hrm, hnm⟩ := kf
  obtain ⟨p, l, e, R, s, m, args, below, meth, c⟩ := κ
  obtain ⟨hd, hj⟩ := hT _ hi
  have hnx := sn_jok_nx hj
  have hn := sn_jok_len hj (by simp [sn_len])
  subst hn; subst hnx
  have ht5 : t = 3 ∨ t = 4 := by rcases hg with q | q; exact Or.inl q.1; exact Or.inr q.1
  obtain ⟨z, rfl⟩ := hR.ne0 ha (fun q => by cases q)
  obtain ⟨y, rfl⟩ := hR.ne0 hbb (fun q => by cases q)
  have hat := hR.2.2 z _ ha
  have hlt : i.toNatClampNeg < N := Nat.not_le.mp fun q => hin (Or.inr q)
  have h0 : ¬ i < 0 := fun q => hin (Or.inl q)
  obtain ⟨r', hr', cellV, g1, g2, g3, -⟩ := hR.2.2 y _ hbb
  have hcls := (hGK.1.1 ci r' hr').2
  obtain ⟨kC, hkC, -⟩ := hcls.2
  dsimp only at *
  have fin : ∃ (E : String) (kA : Class) (comp : ClassId) (kE : Class), s.vm.classes[γ.2.1 t]? = some kA ∧ kA.kind = .array comp (.object E) ∧ s.vm.classes[comp]? = some kE ∧ s.vm.assignable cellV.cls comp = true := by
    rcases hg with ⟨rfl, rfl⟩ | ⟨rfl, q, hq, hca⟩
    · obtain ⟨kA, comp, k1, k2, k3, -⟩ := (hGK.1.2 3 _ rfl).2
      have e9 : r' = (R_2, T_2, 2) := Option.some.inj (hr'.symm.trans rfl)
      subst e9
      have hcomp : comp = γ.1.1 2 := Option.some.inj (k3.symm.trans hcls.1)
      subst hcomp
      exact ⟨_, kA, _, kC, k1, k2, hkC, by rw [g2]; exact va_assign hcls⟩
    · obtain ⟨kA, comp, k1, k2, k3, -⟩ := (hGK.1.2 4 _ rfl).2
      have e9 : r' = q := Option.some.inj (hr'.symm.trans hq)
      subst e9
      obtain ⟨kE, hkE, -⟩ := Vm.findClass_spec k3
      obtain ⟨c0, t1, f1, f2, f3⟩ := Cond.castable_spec (va_Nw.use (A := args) rfl (hGK.2.1 _ hca rfl))
      cases hcls.1.symm.trans f1
      cases k3.symm.trans f2
      exact ⟨_, kA, _, kE, k1, k2, hkE, by rw [g2]; exact f3⟩
  obtain ⟨E, kA, comp, kE, k1, k2, k3, k4⟩ := fin
  refine W.aast hx hb hat (fun q h => by cases h) (fun h => by cases h) k1 k2 rfl k3 ⟨h0, by show _ < (arrV _ _ _).slots.size; rw [arrV_size]; exact hlt⟩ g1 (fun q h => by rw [g3] at h; cases h) (by rw [g2]; exact hkC) k4 rfl rfl hd fun H1 e z2 oq => ?_
  refine K H1 _ ls (hR.set ha ?_ z2 oq) hl (hS.put z2 oq (Nat.le_add_right _ _))
  show H1[_]? = some (vp_cell _ _)
  rw [e]
  show some ((vp_cell (γ.2.1 t) (N, .inr (.inr (.inr (.inr _))))).setSlot _ _) = _
  rw [vp_cell_q, vp_cell_q, arrV_store]
  congr 2
  funext q
  by_cases hq : q = i.toNatClampNeg
  · subst hq
    simp [updV, va_up, va_rf, sn_ad]
  · simp [updV, va_up, hq]
end AW
