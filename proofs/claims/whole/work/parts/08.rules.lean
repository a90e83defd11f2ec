/-! ENTRY AND END OF A METHOD; THE RULES OF EV -/
section AW
variable {γ : sn_G} {κ : sn_K} {o : Nat} {tab : sn_Tb} {M : sn_Md} {d mc ms : Nat} {Q : State → Prop} {h : sn_H} {pc : Nat} {lv rest : List Value} {n k : Nat} {len nx tg : Nat}
theorem sn_nn {z : Int32} (hz : ¬ z < 0) : z.toInt = (z.toNatClampNeg : Int) := by
  have hz0 : (0 : Int) ≤ z.toInt := by
    have := Int32.not_lt.mp hz
    simpa using Int32.le_iff_toInt_le.mp this
  show z.toInt = ((z.toInt.toNat : Nat) : Int)
  omega
theorem sn_nfw : nativeFrameWords "java/lang/System" "arraycopy" 5 ≤ 21 := by decide +kernel
def sn_LA (o idx : Nat) : Prop := Cond.methodLink (sn_rn o) idx arraycopyName ∈ sn_gw ∧ Cond.native arraycopyName ∈ sn_gw ∧ Cond.static arraycopyName ∈ sn_gw ∧ Cond.initialized "java/lang/System" ∈ sn_gw
theorem sn_awCpI (kf : sn_KF γ κ o tab M (d + 1) mc ms) {idx : Nat} (hi : (pc, .invokestatic idx, len, nx, tg) ∈ tab) (lk : sn_LA o idx) {a0 a1 N0 N1 : Nat} {f g : Nat → Int32} (ha0 : h[a0]? = some (.inl (0, N0, .inl f))) (ha1 : h[a1]? = some (.inl (0, N1, .inl g))) {cn : Int32} (h3 : ¬ cn < 0) (h4 : cn.toNatClampNeg ≤ N0) (h5 : cn.toNatClampNeg ≤ N1) (hct : (rest.map Value.category).sum ≤ 8)
    (K : sn_AW γ κ M.2.2.1 Q (h.set a1 (.inl (0, N1, .inl (va_cpy f g 0 0 cn.toNatClampNeg)))) nx lv rest n k) : sn_AW γ κ M.2.2.1 Q h pc lv (.int cn :: .int (nI 0) :: .ref a1 :: .int (nI 0) :: .ref a0 :: rest) n k := by
  intro H locs ls hR hl hS
  obtain ⟨hx, hb, hml, hown, hts, hGK, hsz, hlk, hrt, hT, hrm, hnm⟩ := kf
  obtain ⟨p, l, e, R, s, m, args, below, meth, c⟩ := κ
  obtain ⟨hd, hj⟩ := hT _ hi
  have hnx := sn_jok_nx hj
  have hn := sn_jok_len hj (by simp [sn_len])
  subst hn; subst hnx
  obtain ⟨y, rfl⟩ := hR.ne0 ha0 (fun q => by cases q)
  obtain ⟨z, rfl⟩ := hR.ne0 ha1 (fun q => by cases q)
  obtain ⟨lk1, lk2, lk3, lk4⟩ := lk
  dsimp only at *
  have hc0 : H[γ.2.2.2 + y]? = some (vp_cell (γ.2.1 0) (N0, .inl f)) := hR.2.2 y _ ha0
  have hc1 : H[γ.2.2.2 + z]? = some (vp_cell (γ.2.1 0) (N1, .inl g)) := hR.2.2 z _ ha1
  obtain ⟨-, k0, hk0, cm0, hkk0⟩ := (hGK.1.2 0 _ rfl).1 N0 (fun j => .int (f j))
  obtain ⟨-, k1, hk1, cm1, hkk1⟩ := (hGK.1.2 0 _ rfl).1 N1 (fun j => .int (g j))
  have z0 : ¬ nI 0 < 0 := nI_pos (by omega)
  have z1 : (nI 0).toNatClampNeg = 0 := nI_clamp (by omega)
  intro T hT X
  obtain ⟨vm', X', step⟩ := X.arraycopy hx hown (hts _ lk1) (hts _ lk2) (hts _ lk3) (hts _ lk4) (src := γ.2.2.2 + y) (dst := γ.2.2.2 + z) (cs := vp_cell (γ.2.1 0) (N0, .inl f)) (cd := vp_cell (γ.2.1 0) (N1, .inl g)) (srcPos := nI 0) (destPos := nI 0) (n := cn) (by rw [hT]; exact hc0) (by rw [hT]; exact hc1)
    (fun _ h => by cases h) (fun _ h => by cases h) (fun h => by cases h) (fun h => by cases h) hk0 hk1 hkk0 hkk1 (by simp [refKind]) z0 z0 h3
    (by rw [sn_nn z0, sn_nn h3, z1]; show ¬ _ > ((arrV (γ.2.1 0) N0 (fun j => .int (f j))).slots.size : Int); rw [arrV_size]; omega)
    (by rw [sn_nn z0, sn_nn h3, z1]; show ¬ _ > ((arrV (γ.2.1 0) N1 (fun j => .int (g j))).slots.size : Int); rw [arrV_size]; omega)
    (fun vm₁ _ i hi => by
      have e : (vp_cell (γ.2.1 0) (N0, .inl f)).slots.getD ((nI 0).toNatClampNeg + i) .null = .int (f ((nI 0).toNatClampNeg + i)) := by
        show (arrV (γ.2.1 0) N0 (fun j => .int (f j))).slots.getD _ _ = _
        rw [Array.getD_eq_getD_getElem?, arrV_read _ _ (by rw [z1]; omega)]
        rfl
      refine ⟨?_, ?_⟩
      · rw [e]
        rfl
      · rw [e]
        exact trivial)
    (g := F0 m pc ls (.int cn :: .int (nI 0) :: .ref (γ.2.2.2 + z) :: .int (nI 0) :: .ref (γ.2.2.2 + y) :: rest.map (sn_tr γ))) rfl (by rw [hml]; exact hl.1) (rest := rest.map (sn_tr γ)) rfl (by rw [hb]; exact hd) (by omega) (by show 2 * 0 + _ + _ ≤ _; rw [sn_cat]; have := sn_nfw; omega)
  have e1 : copied (vp_cell (γ.2.1 0) (N0, .inl f)) (vp_cell (γ.2.1 0) (N1, .inl g)) (nI 0) (nI 0) cn = vp_cell (γ.2.1 0) (N1, .inl (va_cpy f g (nI 0).toNatClampNeg (nI 0).toNatClampNeg cn.toNatClampNeg)) := va_copied (fun z => .int z) (γ.2.1 0) (γ.2.1 0) f g (by rw [z1]; omega)
  rw [e1, z1] at X' step
  have hl2 : γ.2.2.2 + z < H.size := (Array.getElem?_eq_some_iff.mp hc1).1
  have hheap : ((T.setVm vm').setCell (γ.2.2.2 + z) (vp_cell (γ.2.1 0) (N1, .inl (va_cpy f g 0 0 cn.toNatClampNeg)))).heap = H.setIfInBounds (γ.2.2.2 + z) (vp_cell (γ.2.1 0) (N1, .inl (va_cpy f g 0 0 cn.toNatClampNeg))) := by rw [← hT]; rfl
  have oq : ∀ q : Nat, q ≠ γ.2.2.2 + z → (H.setIfInBounds (γ.2.2.2 + z) (vp_cell (γ.2.1 0) (N1, .inl (va_cpy f g 0 0 cn.toNatClampNeg))))[q]? = H[q]? := fun q hq => by simp [Array.getElem?_setIfInBounds, Ne.symm hq]
  have hA : sn_A γ (γ.2.2.2 + z) := Nat.le_add_right _ _
  obtain ⟨t, a1, b1⟩ := K _ _ ls (hR.set ha1 (show (H.setIfInBounds (γ.2.2.2 + z) _)[γ.2.2.2 + z]? = some _ by simp [Array.getElem?_setIfInBounds, hl2]) (by simp) oq) hl ⟨by simp; exact hS.1, fun q g1 g2 => by
      rw [oq q (fun e => g2 (by rw [e]; exact hA))]
      exact hS.2.1 q g1 g2, fun q hq => by
      rcases List.mem_append.mp hq with h | h
      · exact hS.2.2 q h
      · obtain ⟨w, -, hz⟩ := List.mem_map.mp h
        rw [← hz]
        exact hA⟩ _ hheap X'
  exact ⟨t, step t a1, b1⟩
theorem sn_awCpL (kf : sn_KF γ κ o tab M (d + 1) mc ms) {idx : Nat} (hi : (pc, .invokestatic idx, len, nx, tg) ∈ tab) (lk : sn_LA o idx) {a0 a1 N0 N1 : Nat} {f g : Nat → Int64} (ha0 : h[a0]? = some (.inl (1, N0, .inr (.inl f)))) (ha1 : h[a1]? = some (.inl (1, N1, .inr (.inl g)))) {cn : Int32} (h3 : ¬ cn < 0) (h4 : cn.toNatClampNeg ≤ N0) (h5 : cn.toNatClampNeg ≤ N1) (hct : (rest.map Value.category).sum ≤ 8)
    (K : sn_AW γ κ M.2.2.1 Q (h.set a1 (.inl (1, N1, .inr (.inl (va_cpy f g 0 0 cn.toNatClampNeg))))) nx lv rest n k) : sn_AW γ κ M.2.2.1 Q h pc lv (.int cn :: .int (nI 0) :: .ref a1 :: .int (nI 0) :: .ref a0 :: rest) n k := by
  intro H locs ls hR hl hS
  obtain ⟨hx, hb, hml, hown, hts, hGK, hsz, hlk, hrt, hT, hrm, hnm⟩ := kf
  obtain ⟨p, l, e, R, s, m, args, below, meth, c⟩ := κ
  obtain ⟨hd, hj⟩ := hT _ hi
  have hnx := sn_jok_nx hj
  have hn := sn_jok_len hj (by simp [sn_len])
  subst hn; subst hnx
  obtain ⟨y, rfl⟩ := hR.ne0 ha0 (fun q => by cases q)
  obtain ⟨z, rfl⟩ := hR.ne0 ha1 (fun q => by cases q)
  obtain ⟨lk1, lk2, lk3, lk4⟩ := lk
  dsimp only at *
  have hc0 : H[γ.2.2.2 + y]? = some (vp_cell (γ.2.1 1) (N0, .inr (.inl f))) := hR.2.2 y _ ha0
  have hc1 : H[γ.2.2.2 + z]? = some (vp_cell (γ.2.1 1) (N1, .inr (.inl g))) := hR.2.2 z _ ha1
  obtain ⟨-, k0, hk0, cm0, hkk0⟩ := (hGK.1.2 1 _ rfl).1 N0 (fun j => .long (f j))
  obtain ⟨-, k1, hk1, cm1, hkk1⟩ := (hGK.1.2 1 _ rfl).1 N1 (fun j => .long (g j))
  have z0 : ¬ nI 0 < 0 := nI_pos (by omega)
  have z1 : (nI 0).toNatClampNeg = 0 := nI_clamp (by omega)
  intro T hT X
  obtain ⟨vm', X', step⟩ := X.arraycopy hx hown (hts _ lk1) (hts _ lk2) (hts _ lk3) (hts _ lk4) (src := γ.2.2.2 + y) (dst := γ.2.2.2 + z) (cs := vp_cell (γ.2.1 1) (N0, .inr (.inl f))) (cd := vp_cell (γ.2.1 1) (N1, .inr (.inl g))) (srcPos := nI 0) (destPos := nI 0) (n := cn) (by rw [hT]; exact hc0) (by rw [hT]; exact hc1)
    (fun _ h => by cases h) (fun _ h => by cases h) (fun h => by cases h) (fun h => by cases h) hk0 hk1 hkk0 hkk1 (by simp [refKind]) z0 z0 h3
    (by rw [sn_nn z0, sn_nn h3, z1]; show ¬ _ > ((arrV (γ.2.1 1) N0 (fun j => .long (f j))).slots.size : Int); rw [arrV_size]; omega)
    (by rw [sn_nn z0, sn_nn h3, z1]; show ¬ _ > ((arrV (γ.2.1 1) N1 (fun j => .long (g j))).slots.size : Int); rw [arrV_size]; omega)
    (fun vm₁ _ i hi => by
      have e : (vp_cell (γ.2.1 1) (N0, .inr (.inl f))).slots.getD ((nI 0).toNatClampNeg + i) .null = .long (f ((nI 0).toNatClampNeg + i)) := by
        show (arrV (γ.2.1 1) N0 (fun j => .long (f j))).slots.getD _ _ = _
        rw [Array.getD_eq_getD_getElem?, arrV_read _ _ (by rw [z1]; omega)]
        rfl
      refine ⟨?_, ?_⟩
      · rw [e]
        rfl
      · rw [e]
        exact trivial)
    (g := F0 m pc ls (.int cn :: .int (nI 0) :: .ref (γ.2.2.2 + z) :: .int (nI 0) :: .ref (γ.2.2.2 + y) :: rest.map (sn_tr γ))) rfl (by rw [hml]; exact hl.1) (rest := rest.map (sn_tr γ)) rfl (by rw [hb]; exact hd) (by omega) (by show 2 * 0 + _ + _ ≤ _; rw [sn_cat]; have := sn_nfw; omega)
  have e1 : copied (vp_cell (γ.2.1 1) (N0, .inr (.inl f))) (vp_cell (γ.2.1 1) (N1, .inr (.inl g))) (nI 0) (nI 0) cn = vp_cell (γ.2.1 1) (N1, .inr (.inl (va_cpy f g (nI 0).toNatClampNeg (nI 0).toNatClampNeg cn.toNatClampNeg))) := va_copied (fun z => .long z) (γ.2.1 1) (γ.2.1 1) f g (by rw [z1]; omega)
  rw [e1, z1] at X' step
  have hl2 : γ.2.2.2 + z < H.size := (Array.getElem?_eq_some_iff.mp hc1).1
  have hheap : ((T.setVm vm').setCell (γ.2.2.2 + z) (vp_cell (γ.2.1 1) (N1, .inr (.inl (va_cpy f g 0 0 cn.toNatClampNeg))))).heap = H.setIfInBounds (γ.2.2.2 + z) (vp_cell (γ.2.1 1) (N1, .inr (.inl (va_cpy f g 0 0 cn.toNatClampNeg)))) := by rw [← hT]; rfl
  have oq : ∀ q : Nat, q ≠ γ.2.2.2 + z → (H.setIfInBounds (γ.2.2.2 + z) (vp_cell (γ.2.1 1) (N1, .inr (.inl (va_cpy f g 0 0 cn.toNatClampNeg)))))[q]? = H[q]? := fun q hq => by simp [Array.getElem?_setIfInBounds, Ne.symm hq]
  have hA : sn_A γ (γ.2.2.2 + z) := Nat.le_add_right _ _
  obtain ⟨t, a1, b1⟩ := K _ _ ls (hR.set ha1 (show (H.setIfInBounds (γ.2.2.2 + z) _)[γ.2.2.2 + z]? = some _ by simp [Array.getElem?_setIfInBounds, hl2]) (by simp) oq) hl ⟨by simp; exact hS.1, fun q g1 g2 => by
      rw [oq q (fun e => g2 (by rw [e]; exact hA))]
      exact hS.2.1 q g1 g2, fun q hq => by
      rcases List.mem_append.mp hq with h | h
      · exact hS.2.2 q h
      · obtain ⟨w, -, hz⟩ := List.mem_map.mp h
        rw [← hz]
        exact hA⟩ _ hheap X'
  exact ⟨t, step t a1, b1⟩
end AW
-- ENTRY
def sn_pos (args : List Value) : List Value := match args with
  | [] => []
  | v :: r => bif Nat.beq v.category 2 then v :: .retAddr 0 :: sn_pos r else v :: sn_pos r
def sn_ent (nL : Nat) (args : List Value) : Option (Nat × List Value × List Value) := bif Nat.ble (sn_pos args).length nL then sn_frc (sn_pos args ++ List.replicate (nL - (sn_pos args).length) (.retAddr 0)) fun L => some (0, L, []) else none
theorem sn_pos_len (γ : sn_G) (args : List Value) : (lg_sl (args.map (sn_tr γ))).length = (sn_pos args).length := by
  induction args with
  | nil => rfl
  | cons v r ih =>
    unfold sn_pos
    have e0 : lg_sl ((v :: r).map (sn_tr γ)) = (if v.category = 2 then [Slot.val (sn_tr γ v), .second] else [.val (sn_tr γ v)]) ++ lg_sl (r.map (sn_tr γ)) := by
      simp [lg_sl, sn_tr_cat]
    rw [e0, List.length_append, ih]
    rcases lv_cat v with e | e
    · have e2 : Nat.beq v.category 2 = false := by rw [e]; rfl
      rw [e2, cond_false, if_neg (by omega)]
      simp only [List.length_cons, List.length_nil]
      omega
    · have e2 : Nat.beq v.category 2 = true := by rw [e]; rfl
      rw [e2, cond_true, if_pos e]
      simp only [List.length_cons, List.length_nil]
      omega
theorem sn_pos_in (γ : sn_G) (m : Nat) (args : List Value) : ∀ (i j : Nat) (w : Value), (j, w) ∈ sn_lo i (sn_pos args ++ List.replicate m (.retAddr 0)) → (j, sn_tr γ w) ∈ lv_args i (args.map (sn_tr γ)) := by
  induction args with
  | nil =>
    intro i j w hm
    obtain ⟨k, e, hk, hr⟩ := sn_lo_mem.mp hm
    have : w = .retAddr 0 := by
      have h1 := List.mem_of_getElem? hk
      simp [sn_pos] at h1
      exact h1.2
    subst this
    cases hr
  | cons v r ih =>
    intro i j w hm
    obtain ⟨k, e, hk, hr⟩ := sn_lo_mem.mp hm
    unfold sn_pos at hk
    simp only [List.map_cons, lv_args, sn_tr_cat]
    rcases lv_cat v with e1 | e1
    · have e2 : Nat.beq v.category 2 = false := by rw [e1]; rfl
      rw [e2, cond_false] at hk
      have e3 : ¬ v.category = 2 := by omega
      rw [if_neg e3]
      cases k with
      | zero =>
        have e4 : v = w := Option.some.inj hk
        subst e4; subst e
        exact List.mem_cons_self
      | succ k => exact List.mem_cons_of_mem _ (ih (i + 1) j w (sn_lo_mem.mpr ⟨k, by omega, hk, hr⟩))
    · have e2 : Nat.beq v.category 2 = true := by rw [e1]; rfl
      rw [e2, cond_true] at hk
      rw [if_pos e1]
      cases k with
      | zero =>
        have e4 : v = w := Option.some.inj hk
        subst e4; subst e
        exact List.mem_cons_self
      | succ k =>
        cases k with
        | zero =>
          have e4 : Value.retAddr 0 = w := Option.some.inj hk
          subst e4
          cases hr
        | succ k => exact List.mem_cons_of_mem _ (ih (i + 2) j w (sn_lo_mem.mpr ⟨k, by omega, hk, hr⟩))
theorem sn_entry (γ : sn_G) {nL : Nat} {args lv : List Value} (h : sn_ent nL args = some (0, lv, [])) : lv_has ((lg_sl (args.map (sn_tr γ)) ++ List.replicate (nL - (lg_sl (args.map (sn_tr γ))).length) Slot.unset).toArray) nL (sn_lov γ lv) := by
  unfold sn_ent at h
  cases hb : Nat.ble (sn_pos args).length nL with
  | false => rw [hb] at h; cases h
  | true =>
    rw [hb, cond_true, sn_frc_eq] at h
    cases h
    have h1 := lv_entry (args.map (sn_tr γ)) (n := nL) (by rw [sn_pos_len]; exact Nat.le_of_ble_eq_true hb)
    refine ⟨h1.1, h1.2.1, fun q hq => h1.2.2 q ?_⟩
    obtain ⟨⟨j, w⟩, hm, rfl⟩ := List.mem_map.mp hq
    exact sn_pos_in γ _ args 0 j w hm
def sn_MOK (E : sn_E) : Prop := plainName E.2.2.1.cls = true ∧ sn_tabOk E.2.2.2.1 E.2.1 ∧ E.2.2.1.cls = sn_rn E.1
def sn_rc (t : Option FieldType) (r : Option Value) : Prop := match t, r with
  | some .int, some (.int _) => True
  | some .boolean, some (.int v) => v = 0 ∨ v = 1
  | some .long, some (.long _) => True
  | some (.object _), some (.ref _) => True
  | some (.object _), some .null => True
  | some (.array _), some (.ref _) => True
  | none, none => True
  | _, _ => False
def Sp (d : Nat) (E : sn_E) (args : List Value) (h : sn_H) (r : Option Value) (h' : sn_H) : Prop := (h.length ≤ h'.length ∧ sn_hs h ≤ sn_hs h') ∧ ∀ (γ : sn_G) (l : Launch), sn_Sp γ l d E.2.2 args h r h' (h'.length - h.length) (sn_hs h' - sn_hs h)
theorem Sp.of {d : Nat} {E : sn_E} {args lv : List Value} {h h' : sn_H} {r : Option Value} (ok : sn_MOK E) (hrc : sn_rc E.2.2.2.2.2 r) (hent : sn_ent E.2.2.2.2.1 args = some (0, lv, [])) (K : Ev o0 d E 0 lv [] h r h') : Sp d E args h r h' := by
  refine ⟨K.1, fun γ l => ?_⟩
  obtain ⟨o, tab, M⟩ := E
  obtain ⟨ok1, ok2, ok3⟩ := ok
  obtain ⟨K0, K⟩ := K
  dsimp only at *
  refine Met.ofW (cc := M.2.1) (maxL := M.2.2.1) (ret := M.2.2.2) ok1 rfl ?_
  intro p e s m args' below meth c s₁ B hml hv
  obtain ⟨rfl, hR, hGK⟩ := hv
  have hx := B.exec
  have hb := B.bytes
  have hr := B.returns
  have hlocks := B.notSynchronized
  have hts0 := atoms_spec (ws := sn_ws M) B.pre
  have hown : s.vm.findClass (sn_rn o) = some m.cls := by rw [← ok3]; exact findClass_of_methodNamed B.named
  have hin : meth.name = M.1.name := (name_of_methodNamed B.named B.method).1
  have kf : sn_KF γ (p, l, e, sn_rm d (h'.length - h.length) (sn_hs h' - sn_hs h), s, m, (args.map (sn_tr γ)).toArray, below, meth, c) o tab M d (h'.length - h.length) (sn_hs h' - sn_hs h) :=
    ⟨hx, hb, hml, hown, fun w hw => hts0 w (List.mem_cons_of_mem _ hw), hGK, hR.sz, hlocks, hr, ok2, ⟨Nat.le_refl _, Nat.le_refl _, Nat.le_refl _, Nat.le_refl _⟩, hin⟩
  have K1 := K γ (p, l, e, sn_rm d (h'.length - h.length) (sn_hs h' - sn_hs h), s, m, (args.map (sn_tr γ)).toArray, below, meth, c) (h'.length - h.length) (sn_hs h' - sn_hs h) (MQ below (sn_Q γ r h') (args.map (sn_tr γ)).toArray s (h'.length - h.length) (sn_hs h' - sn_hs h) (sn_A γ)) 0 0 kf trivial (by omega) (by omega) ?_
  · have K2 := K1 s.heap [] _ hR (sn_entry γ hent) va_S.rf
    rw [lg_entry_eq]
    exact K2
  · intro pcR iR ls H locs hd hrt hR1 hS
    dsimp only at *
    rw [Nat.zero_add, Nat.zero_add]
    have hq : ∀ t : State, t.heap = H → s.WarmedH t.vm → sn_Q γ r h' (args.map (sn_tr γ)).toArray s (.returned (r.map (sn_tr γ))) t := fun t ht _ => ⟨rfl, by rw [ht]; exact hR1, hS.F ht⟩
    cases r with
    | none =>
      cases iR <;> first | exact False.elim hrt | skip
      have hr0 : M.2.2.2 = none := by
        cases hq : M.2.2.2 with
        | none => rfl
        | some t => rw [hq] at hrc; cases t <;> exact hrc.elim
      exact W.vret hx hb (hr.trans hr0) hq hS.2.2 hd
    | some v =>
      cases v with
      | int x =>
        cases iR <;> first | exact False.elim hrt | skip
        cases ht : M.2.2.2 with
        | none => rw [ht] at hrc; exact hrc.elim
        | some t =>
          rw [ht] at hrc
          cases t with
          | int => exact W.iret hx hb (hr.trans ht) hq hS.2.2 hd
          | boolean =>
            refine W.zret hx hb (hr.trans ht) ?_ hq hS.2.2 hd
            rcases hrc with rfl | rfl <;> rfl
          | _ => exact hrc.elim
      | long x =>
        cases iR <;> first | exact False.elim hrt | skip
        cases ht : M.2.2.2 with
        | none => rw [ht] at hrc; exact hrc.elim
        | some t =>
          rw [ht] at hrc
          cases t with
          | long => exact W.lret hx hb (hr.trans ht) hq hS.2.2 hd
          | _ => exact hrc.elim
      | ref x =>
        cases iR <;> first | exact False.elim hrt | skip
        cases ht : M.2.2.2 with
        | none => rw [ht] at hrc; exact hrc.elim
        | some t =>
          rw [ht] at hrc
          cases t with
          | object y => exact W.aret hx hb (hr.trans ht) (Or.inl ⟨_, rfl⟩) (Or.inr ⟨_, rfl⟩) hq hS.2.2 hd
          | array y => exact W.aret hx hb (hr.trans ht) (Or.inr ⟨_, rfl⟩) (Or.inr ⟨_, rfl⟩) hq hS.2.2 hd
          | _ => exact hrc.elim
      | null =>
        cases iR <;> first | exact False.elim hrt | skip
        cases ht : M.2.2.2 with
        | none => rw [ht] at hrc; exact hrc.elim
        | some t =>
          rw [ht] at hrc
          cases t with
          | object y => exact W.aret hx hb (hr.trans ht) (Or.inl ⟨_, rfl⟩) (Or.inl rfl) hq hS.2.2 hd
          | _ => exact hrc.elim
      | _ => cases iR <;> exact False.elim hrt
