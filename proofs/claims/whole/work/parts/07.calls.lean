/-! NEW CELLS, CASTS, CALLS -/
/-- class ci as the table has it: its link, its fresh fields -/
def sn_LC (o idx ci : Nat) (fs : List Value) : Prop := ∃ q : vw_C, sn_CK ci q ∧ fs.length = q.2.2 ∧ Cond.classLink (sn_rn o) idx q.1 ∈ sn_gw ∧ Cond.instantiable q.1 q.2.2 ∈ sn_gw ∧ Cond.initialized q.1 ∈ sn_gw ∧ ∀ (γ : sn_G) (j : Nat), j < q.2.2 → defaultValue (sn_cty ci j) = vp_V (fs.map (sn_tr γ)) j
section AW
variable {γ : sn_G} {κ : sn_K} {o : Nat} {tab : sn_Tb} {M : sn_Md} {d mc ms : Nat} {Q : State → Prop} {h : sn_H} {pc : Nat} {lv rest : List Value} {n k : Nat} {len nx tg : Nat}
theorem sn_awNew (kf : sn_KF γ κ o tab M d mc ms) {idx ci : Nat} {fs : List Value} (hi : (pc, .new idx, len, nx, tg) ∈ tab) (lk : sn_LC o idx ci fs) (h1 : n + 1 ≤ mc) (h2 : k + fs.length ≤ ms) (K : sn_AW γ κ M.2.2.1 Q (h ++ [.inr (ci, fs)]) nx lv (.ref h.length :: rest) (n + 1) (k + fs.length)) : sn_AW γ κ M.2.2.1 Q h pc lv rest n k := by
  intro H locs ls hR hl hS
  obtain ⟨hx, hb, hml, hown, hts, hGK, hsz, hlk, hrt, hT, hrm, hnm⟩ := kf
  obtain ⟨p, l, e, R, s, m, args, below, meth, c⟩ := κ
  obtain ⟨hd, hj⟩ := hT _ hi
  have hnx := sn_jok_nx hj
  have hn := sn_jok_len hj (by simp [sn_len])
  subst hn; subst hnx
  obtain ⟨⟨C, T, N⟩, hck, hfl, hcl, hinst, hini, hdf⟩ := lk
  obtain ⟨hc, hin, hty0, hnm0⟩ := hck
  dsimp only at *
  have hKn := hGK.1.1 ci _ hc
  rw [hfl] at h2 K
  refine W.newcK hx hb hown (hts _ hcl) (hts _ hinst) (hts _ hini) rfl hd (Nat.le_trans h1 hrm.2.2.1) (Nat.le_trans h2 hrm.2.2.2) hKn.2.1 rfl fun H1 kC hkC e1 z1 o1 => ?_
  have hR1 : sn_HR γ (h ++ [.inr (ci, fs)]) H1 := hR.push ⟨_, hc, (u_born (sn_cty ci) hts hin hKn hkC e1 hty0).to (hdf γ)⟩ z1 o1
  have K2 := K H1 locs ls hR1 hl ⟨Nat.le_trans hS.1 (by omega), fun x h1 h2 => (o1 x (Nat.lt_of_lt_of_le h1 hS.1)).trans (hS.2.1 x h1 h2), hS.2.2⟩
  have e2 : sn_tr γ (.ref h.length) = .ref H.size := congrArg Value.ref hR.new
  rw [List.map_cons, e2] at K2
  exact K2
def sn_nak (t : Nat) : ArrayType × FieldType := match t with
  | 0 => (.int, .int)
  | 1 => (.long, .long)
  | _ => (.byte, .byte)
def sn_nac (t N : Nat) : va_E := match t with
  | 0 => .inl (0, N, .inl fun _ => 0)
  | 1 => .inl (1, N, .inr (.inl fun _ => 0))
  | _ => .inl (2, N, .inl fun _ => 0)
theorem sn_awNewa (kf : sn_KF γ κ o tab M d mc ms) {t N : Nat} (ht : t < 3) (hi : (pc, .newarray (sn_nak t).1, len, nx, tg) ∈ tab) (hN : N < 65536) (hac : Cond.arrayClass (sn_nak t).2 ∈ sn_gw) (h1 : n + 1 ≤ mc) (h2 : k + N ≤ ms) (K : sn_AW γ κ M.2.2.1 Q (h ++ [sn_nac t N]) nx lv (.ref h.length :: rest) (n + 1) (k + N)) : sn_AW γ κ M.2.2.1 Q h pc lv (.int (nI N) :: rest) n k := by
  intro H locs ls hR hl hS
  obtain ⟨hx, hb, hml, hown, hts, hGK, hsz, hlk, hrt, hT, hrm, hnm⟩ := kf
  obtain ⟨p, l, e, R, s, m, args, below, meth, c⟩ := κ
  obtain ⟨hd, hj⟩ := hT _ hi
  have hnx := sn_jok_nx hj
  have hn := sn_jok_len hj (by simp [sn_len])
  subst hn; subst hnx
  dsimp only at *
  have hcl : (nI N).toNatClampNeg = N := nI_clamp (by omega)
  have hng : ¬ nI N < 0 := nI_pos (by omega)
  have e2 : sn_tr γ (.ref h.length) = .ref H.size := congrArg Value.ref hR.new
  have go : ∀ (H1 : Heap), va_at γ.1 sn_cls (H.size, sn_te γ (sn_nac t N)) H1 → H1.size = H.size + 1 → (∀ q, q < H.size → H1[q]? = H[q]?) → W p l e R s m args below meth c H1 locs (n + 1) (k + N) Q (F0 m (pc + 2) ls (.ref H.size :: rest.map (sn_tr γ))) := by
    intro H1 a1 z1 o1
    have K2 := K H1 locs ls (hR.push a1 z1 o1) hl ⟨Nat.le_trans hS.1 (by omega), fun x h1 h2 => (o1 x (Nat.lt_of_lt_of_le h1 hS.1)).trans (hS.2.1 x h1 h2), hS.2.2⟩
    rw [List.map_cons, e2] at K2
    exact K2
  have ct : t = 0 ∨ t = 1 ∨ t = 2 := by omega
  rcases ct with rfl | rfl | rfl
  · refine va_newaK hx hb (atype := .int) (hts _ hac) rfl hd rfl hng hcl (by show N * 4 ≤ _; omega) (Nat.le_trans h1 hrm.2.2.1) (Nat.le_trans h2 hrm.2.2.2) rfl fun H1 cA e1 z1 o1 _ fc => ?_
    have hca : cA = γ.2.1 0 := Option.some.inj (fc.symm.trans (hGK.1.2 0 _ rfl).2)
    subst hca
    exact go H1 e1 z1 o1
  · refine va_newaK hx hb (atype := .long) (hts _ hac) rfl hd rfl hng hcl (by show N * 8 ≤ _; omega) (Nat.le_trans h1 hrm.2.2.1) (Nat.le_trans h2 hrm.2.2.2) rfl fun H1 cA e1 z1 o1 _ fc => ?_
    have hca : cA = γ.2.1 1 := Option.some.inj (fc.symm.trans (hGK.1.2 1 _ rfl).2)
    subst hca
    exact go H1 e1 z1 o1
  · refine va_newaK hx hb (atype := .byte) (hts _ hac) rfl hd rfl hng hcl (by show N * 1 ≤ _; omega) (Nat.le_trans h1 hrm.2.2.1) (Nat.le_trans h2 hrm.2.2.2) rfl fun H1 cA e1 z1 o1 _ fc => ?_
    have hca : cA = γ.2.1 2 := Option.some.inj (fc.symm.trans (hGK.1.2 2 _ rfl).2)
    subst hca
    exact go H1 e1 z1 o1
def sn_nq (t : Nat) : String := match t with
  | 3 => "SureNoes$Law"
  | _ => "SureNoes$Book"
theorem sn_awNewq (kf : sn_KF γ κ o tab M d mc ms) {t N idx : Nat} (ht : t = 3 ∨ t = 4) (hi : (pc, .anewarray idx, len, nx, tg) ∈ tab) (hN : N < 65536) (hac : Cond.classLink (sn_rn o) idx (sn_nq t) ∈ sn_gw) (h1 : n + 1 ≤ mc) (h2 : k + N ≤ ms) (K : sn_AW γ κ M.2.2.1 Q (h ++ [.inl (t, N, .inr (.inr (.inr (.inr fun _ => none))))]) nx lv (.ref h.length :: rest) (n + 1) (k + N)) : sn_AW γ κ M.2.2.1 Q h pc lv (.int (nI N) :: rest) n k := by
  intro H locs ls hR hl hS
  obtain ⟨hx, hb, hml, hown, hts, hGK, hsz, hlk, hrt, hT, hrm, hnm⟩ := kf
  obtain ⟨p, l, e, R, s, m, args, below, meth, c⟩ := κ
  obtain ⟨hd, hj⟩ := hT _ hi
  have hnx := sn_jok_nx hj
  have hn := sn_jok_len hj (by simp [sn_len])
  subst hn; subst hnx
  dsimp only at *
  have hcl : (nI N).toNatClampNeg = N := nI_clamp (by omega)
  have hng : ¬ nI N < 0 := nI_pos (by omega)
  have e2 : sn_tr γ (.ref h.length) = .ref H.size := congrArg Value.ref hR.new
  have ov : (Cond.arrayOver (.object (sn_nq t))).before args s = true := by
    rcases ht with rfl | rfl
    · exact va_AO.use hGK.2.2.1.1
    · exact va_AO.use hGK.2.2.1.2
  refine W.anew hx hb hown (hts _ hac) ov rfl hd rfl hng (by rw [hcl]; omega) (Nat.le_trans h1 hrm.2.2.1) (by rw [hcl]; exact Nat.le_trans h2 hrm.2.2.2) fun cA kA comp f1 f2 f3 f4 => ?_
  rw [hcl]
  generalize hH1 : H.push ({ cls := cA, slots := Array.replicate N .null, vm := .none } : Cell) = H1
  have z1 : H1.size = H.size + 1 := by rw [← hH1, Array.size_push]
  have e1 : H1[H.size]? = some (arrV cA N (fun _ => .null)) := by rw [← hH1, Array.getElem?_push_size, ← arrV_new]
  have o1 : ∀ q : Nat, q < H.size → H1[q]? = H[q]? := fun q hq => by rw [← hH1, Array.getElem?_push, if_neg (Nat.ne_of_lt hq)]
  have hca : cA = γ.2.1 t := by
    rcases ht with rfl | rfl
    · obtain ⟨_, _, _, _, _, q⟩ := (hGK.1.2 3 _ rfl).2
      exact Option.some.inj (f1.symm.trans q)
    · obtain ⟨_, _, _, _, _, q⟩ := (hGK.1.2 4 _ rfl).2
      exact Option.some.inj (f1.symm.trans q)
  subst hca
  have K2 := K H1 locs ls (hR.push (show va_at γ.1 sn_cls (H.size, sn_te γ (.inl (t, N, .inr (.inr (.inr (.inr fun _ => none)))))) H1 from e1) z1 o1) hl ⟨Nat.le_trans hS.1 (by omega), fun x h1 h2 => (o1 x (Nat.lt_of_lt_of_le h1 hS.1)).trans (hS.2.1 x h1 h2), hS.2.2⟩
  rw [List.map_cons, e2] at K2
  exact K2
-- CASTS
def sn_LY (o idx ci : Nat) : Prop := ∃ (q : vw_C) (nm : String), sn_cls[ci]? = some q ∧ Cond.classLink (sn_rn o) idx nm ∈ sn_gw ∧ (nm = q.1 ∨ Cond.castable q.1 nm ∈ lw_tbl)
def sn_LN (o idx ci : Nat) : Prop := ∃ (q : vw_C) (nm : String), sn_cls[ci]? = some q ∧ Cond.classLink (sn_rn o) idx nm ∈ sn_gw ∧ (q.1, nm) ∈ sn_nc
theorem sn_rcv {H : Heap} {s : State} (hK : va_K γ.1 sn_cls (sn_tys γ) s) {ci i : Nat} {fs : List Value} (hR : sn_HR γ h H) (ha : h[i + 1]? = some (.inr (ci, fs))) {q : vw_C} (hc : sn_cls[ci]? = some q) : ∃ cell : Cell, H[γ.2.2.2 + i]? = some cell ∧ cell.vm.isStatics = false ∧ s.vm.findClass q.1 = some cell.cls :=
  va_recv (q0 := 0) hK (sn_va_P1 (hR.2.2 i _ ha)) hc rfl
theorem sn_awInstY (kf : sn_KF γ κ o tab M d mc ms) {idx ci a : Nat} {fs : List Value} (hi : (pc, .instanceof idx, len, nx, tg) ∈ tab) (lk : sn_LY o idx ci) (ha : h[a]? = some (.inr (ci, fs))) (K : sn_AW γ κ M.2.2.1 Q h nx lv (.int 1 :: rest) n k) : sn_AW γ κ M.2.2.1 Q h pc lv (.ref a :: rest) n k := by
  intro H locs ls hR hl hS
  obtain ⟨hx, hb, hml, hown, hts, hGK, hsz, hlk, hrt, hT, hrm, hnm⟩ := kf
  obtain ⟨p, l, e, R, s, m, args, below, meth, c⟩ := κ
  obtain ⟨hd, hj⟩ := hT _ hi
  have hnx := sn_jok_nx hj
  have hn := sn_jok_len hj (by simp [sn_len])
  subst hn; subst hnx
  obtain ⟨z, rfl⟩ := hR.ne0 ha (fun q => by cases q)
  obtain ⟨q, nm, hq, hlink, hnm2⟩ := lk
  dsimp only at *
  have rc := sn_rcv hGK.1 hR ha hq
  rcases hnm2 with rfl | hca
  · exact va_instS hx hb hown (hts _ hlink) (hGK.1.1 ci _ hq).2 rc hd (K H locs ls hR hl hS)
  · exact va_instY hx hb hown (hts _ hlink) (hGK.2.1 _ hca rfl) rc hd (K H locs ls hR hl hS)
theorem sn_awInstN (kf : sn_KF γ κ o tab M d mc ms) {idx ci a : Nat} {fs : List Value} (hi : (pc, .instanceof idx, len, nx, tg) ∈ tab) (lk : sn_LN o idx ci) (ha : h[a]? = some (.inr (ci, fs))) (K : sn_AW γ κ M.2.2.1 Q h nx lv (.int 0 :: rest) n k) : sn_AW γ κ M.2.2.1 Q h pc lv (.ref a :: rest) n k := by
  intro H locs ls hR hl hS
  obtain ⟨hx, hb, hml, hown, hts, hGK, hsz, hlk, hrt, hT, hrm, hnm⟩ := kf
  obtain ⟨p, l, e, R, s, m, args, below, meth, c⟩ := κ
  obtain ⟨hd, hj⟩ := hT _ hi
  have hnx := sn_jok_nx hj
  have hn := sn_jok_len hj (by simp [sn_len])
  subst hn; subst hnx
  obtain ⟨z, rfl⟩ := hR.ne0 ha (fun q => by cases q)
  obtain ⟨q, nm, hq, hlink, hnm2⟩ := lk
  dsimp only at *
  exact va_instNo hx hb hown (hts _ hlink) (hGK.2.2.2 _ hnm2) (sn_rcv hGK.1 hR ha hq) hd (K H locs ls hR hl hS)
theorem sn_awCast (kf : sn_KF γ κ o tab M d mc ms) {idx ci a : Nat} {fs : List Value} (hi : (pc, .checkcast idx, len, nx, tg) ∈ tab) (lk : sn_LY o idx ci) (ha : h[a]? = some (.inr (ci, fs))) (K : sn_AW γ κ M.2.2.1 Q h nx lv (.ref a :: rest) n k) : sn_AW γ κ M.2.2.1 Q h pc lv (.ref a :: rest) n k := by
  intro H locs ls hR hl hS
  obtain ⟨hx, hb, hml, hown, hts, hGK, hsz, hlk, hrt, hT, hrm, hnm⟩ := kf
  obtain ⟨p, l, e, R, s, m, args, below, meth, c⟩ := κ
  obtain ⟨hd, hj⟩ := hT _ hi
  have hnx := sn_jok_nx hj
  have hn := sn_jok_len hj (by simp [sn_len])
  subst hn; subst hnx
  obtain ⟨z, rfl⟩ := hR.ne0 ha (fun q => by cases q)
  obtain ⟨q, nm, hq, hlink, hnm2⟩ := lk
  dsimp only at *
  have rc := sn_rcv hGK.1 hR ha hq
  rcases hnm2 with rfl | hca
  · exact va_castS hx hb hown (hts _ hlink) (hGK.1.1 ci _ hq).2 rc hd (K H locs ls hR hl hS)
  · exact va_castY hx hb hown (hts _ hlink) (hGK.2.1 _ hca rfl) rc hd (K H locs ls hR hl hS)
theorem sn_awObj (kf : sn_KF γ κ o tab M (d + 1) mc ms) {idx a : Nat} (hi : (pc, .invokespecial idx, len, nx, tg) ∈ tab) (lk : Cond.methodLink (sn_rn o) idx Lib.objectInit ∈ sn_gw) (lk2 : Cond.instanceMethod Lib.objectInit ∈ sn_gw) (lk3 : Cond.code Lib.objectInit ⟨#[0xb1]⟩ 1 none ∈ sn_gw) (hct : (rest.map Value.category).sum ≤ 8) (K : sn_AW γ κ M.2.2.1 Q h nx lv rest n k) : sn_AW γ κ M.2.2.1 Q h pc lv (.ref a :: rest) n k := by
  intro H locs ls hR hl hS
  obtain ⟨hx, hb, hml, hown, hts, hGK, hsz, hlk, hrt, hT, hrm, hnm⟩ := kf
  obtain ⟨p, l, e, R, s, m, args, below, meth, c⟩ := κ
  obtain ⟨hd, hj⟩ := hT _ hi
  have hnx := sn_jok_nx hj
  have hn := sn_jok_len hj (by simp [sn_len])
  subst hn; subst hnx
  dsimp only at *
  have e1 : ((rest.map (sn_tr γ)).map fun v => v.category) = rest.map Value.category := by
    rw [List.map_map]; exact List.map_congr_left (fun v _ => sn_tr_cat γ v)
  exact W.objInit hx hb hown (hts _ lk) (hts _ lk2) (hts _ lk3) rfl (by rw [hml]; exact hl.1) rfl hd (by omega) (by show 2 * 0 + _ + 12 ≤ _; rw [e1]; omega) (K H locs ls hR hl hS)
-- CALLS
/-- what any call of M asks: its code, its class, n parameters -/
def sn_MK (M : sn_Md) (n : Nat) : Prop := Cond.code M.1 M.2.1 M.2.2.1 M.2.2.2 ∈ sn_gw ∧ Cond.initialized M.1.cls ∈ sn_gw ∧ (M.1.cls ≠ "java/lang/invoke/MethodHandle" ∧ M.1.cls ≠ "java/lang/invoke/VarHandle" ∧ (parseMethodDescriptor M.1.desc).map (fun d => d.parameters.length) = some n) ∧ M.2.2.1 ≤ 21
theorem sn_goodIn {M : sn_Md} (h : Cond.code M.1 M.2.1 M.2.2.1 M.2.2.2 ∈ sn_gw) : GoodIn sn_gw (sn_ws M) := by
  intro w hw
  rcases List.mem_cons.mp hw with rfl | hw
  · exact ⟨h, good_of_word (sn_gw_good _ h).2⟩
  · exact ⟨hw, good_of_word (sn_gw_good _ hw).2⟩
theorem sn_blind {args : List Value} : FrameBlind (sn_Pc γ args h) := by
  intro a U g mk q
  obtain ⟨q0, q1, q2, q3⟩ := q
  exact ⟨q0, q1, va_K.moved (u := U) (U := U.calling g mk a) (Vm.Alike.refl U.vm) q2, sn_GN.same (s := U) (U := U.calling g mk a) rfl q3⟩
theorem sn_pre {s : State} {H : Heap} {args : List Value} (hR : sn_HR γ h H) (hGK : sn_GK γ s) : ∀ U : State, U.heap = H → s.WarmedH U.vm → sn_Pc γ args h (args.map (sn_tr γ)).toArray U := by
  intro U hU hW
  exact ⟨rfl, by rw [hU]; exact hR, va_K.moved hW.alike hGK.1, sn_GN.warm hW hGK.2⟩
theorem sn_cat (γ : sn_G) (rest : List Value) : ((rest.map (sn_tr γ)).map fun v => v.category) = rest.map Value.category := by
  rw [List.map_map]; exact List.map_congr_left (fun v _ => sn_tr_cat γ v)
theorem sn_callW {p : Program} {l : Launch} {e : Env} {R : Room} {s : State} {m : MethodId} {args : Array Value} {below : List Frame} {meth : Method} {c : Code} {H : Heap} {locs : List Loc} {cells slots mc ms pc : Nat} {ls : Array Slot} {st0 rest : List Value} {Q : State → Prop} {r : Option Value} {h1 : sn_H} {a : Array Value}
    (hr : va_Run p l e R s m args below meth c H locs cells slots mc ms (F0 m pc ls st0) rest (sn_Q γ r h1 a) (sn_A γ)) (hS : va_S (sn_A γ) s.heap H locs)
    (kk : ∀ (H1 : Heap) (locs1 : List Loc), sn_HR γ h1 H1 → va_S (sn_A γ) s.heap H1 locs1 → W p l e R s m args below meth c H1 locs1 (cells + mc) (slots + ms) Q (F0 m (pc + 3) ls ((r.map (sn_tr γ)).toList ++ rest))) : W p l e R s m args below meth c H locs cells slots Q (F0 m pc ls st0) := by
  intro T hT X
  obtain ⟨v, st₀, t, T', L, h0, X', hL, e1, e2, ⟨hv, hR1, hz, hk⟩, st⟩ := hr T hT X
  cases hv
  rw [h0] at hz hk
  obtain ⟨t2, a1, b1⟩ := kk T'.heap (locs ++ L) (by rw [e1]; exact hR1)
    ⟨Nat.le_trans hS.1 (by rw [e1]; exact hz), fun q h1 h2 => by rw [e1, hk q (Nat.lt_of_lt_of_le h1 hS.1) h2]; exact hS.2.1 q h1 h2, fun q hq => by
      rcases List.mem_append.mp hq with h | h
      · exact hS.2.2 q h
      · exact hL q h⟩ T' rfl X'
  exact ⟨t2, st t2 a1, b1⟩
theorem sn_callK {p : Program} {l : Launch} {e : Env} {R : Room} {s : State} {m : MethodId} {args : Array Value} {below : List Frame} {meth : Method} {c : Code} {H : Heap} {locs : List Loc} {mc' ms' : Nat} {ls : Array Slot} {st0 : List Value} {r : Option Value} {h1 : sn_H} {a : Array Value} {nL : Nat}
    (hr : va_Run p l e R s m args below meth c H locs n k mc' ms' (F0 m pc ls st0) (rest.map (sn_tr γ)) (sn_Q γ r h1 a) (sn_A γ)) (hS : va_S (sn_A γ) s.heap H locs) (hl : lv_has ls nL (sn_lov γ lv))
    (K : sn_AW γ (p, l, e, R, s, m, args, below, meth, c) nL Q h1 (pc + 3) lv (r.toList ++ rest) (n + mc') (k + ms')) : W p l e R s m args below meth c H locs n k Q (F0 m pc ls st0) := by
  refine sn_callW hr hS fun H1 locs1 hR1 hS1 => ?_
  have K2 := K H1 locs1 ls hR1 hl hS1
  have e1 : (r.toList ++ rest).map (sn_tr γ) = (r.map (sn_tr γ)).toList ++ rest.map (sn_tr γ) := by cases r <;> simp
  rw [e1] at K2
  exact K2
def sn_LS (o idx : Nat) (M : sn_Md) : Prop := (Cond.methodLink (sn_rn o) idx M.1 ∈ sn_gw ∨ ∃ host, Cond.methodLinkNest (sn_rn o) idx M.1 host ∈ lw_tbl) ∧ Cond.static M.1 ∈ sn_gw
theorem sn_awS (kf : sn_KF γ κ o tab M (d + 1) mc ms) {idx nA : Nat} (hi : (pc, .invokestatic idx, len, nx, tg) ∈ tab) {M' : sn_Md} (mk : sn_MK M' nA) (lk : sn_LS o idx M') {as : List Value} (hn : as.length = nA) (hct : (rest.map Value.category).sum ≤ 8) {r : Option Value} {h1 : sn_H} {mc' ms' : Nat} (hS : sn_Sp γ κ.2.1 d M' as h r h1 mc' ms') (hc : n + mc' ≤ mc) (hs : k + ms' ≤ ms)
    (K : sn_AW γ κ M.2.2.1 Q h1 nx lv (r.toList ++ rest) (n + mc') (k + ms')) : sn_AW γ κ M.2.2.1 Q h pc lv (as.reverse ++ rest) n k := by
  intro H locs ls hR hl hS0
  obtain ⟨hx, hb, hml, hown, hts, hGK, hsz, hlk, hrt, hT, hrm, hnm⟩ := kf
  obtain ⟨p, l, e, R, s, m, args, below, meth, c⟩ := κ
  obtain ⟨hd, hj⟩ := hT _ hi
  have hnx := sn_jok_nx hj
  have hln := sn_jok_len hj (by simp [sn_len])
  subst hln; subst hnx
  obtain ⟨mk1, mk2, mk3, mk4⟩ := mk
  dsimp only at *
  have rm1 : (sn_rm d mc' ms').frames + 1 ≤ R.frames ∧ 8 + (M'.2.2.1 + 11) + (sn_rm d mc' ms').locals ≤ R.locals := ⟨hrm.1, by show 8 + (M'.2.2.1 + 11) + 40 * d ≤ _; omega⟩
  obtain ⟨lk1, lk2⟩ := lk
  rcases lk1 with lk1 | ⟨host, lk1⟩
  · exact sn_callK (va_runS ⟨hx, hb, hml, hown, hts⟩ hS ⟨callB_of nA hts (sn_goodIn mk1) rfl rfl rfl (hts _ mk2) (hts _ lk1) mk3 rm1, hts _ lk2⟩ ⟨sn_blind, sn_pre hR hGK⟩ rfl (by rw [List.length_map]; exact hn) hl.1 (by show _ = _; rw [List.map_append, List.map_reverse]) (by show 2 * 0 + _ ≤ 8; rw [sn_cat]; omega) hd ⟨Nat.le_trans hc hrm.2.2.1, Nat.le_trans hs hrm.2.2.2⟩) hS0 hl K
  · exact sn_callK (va_runSN ⟨hx, hb, hml, hown, hts⟩ hS ⟨va_cnB nA hts (sn_goodIn mk1) rfl rfl rfl (hGK.2.1 _ lk1 rfl) (hts _ mk2) mk3 rm1, hts _ lk2, trivial⟩ ⟨sn_blind, sn_pre hR hGK⟩ rfl (by rw [List.length_map]; exact hn) hl.1 (by show _ = _; rw [List.map_append, List.map_reverse]) (by show 2 * 0 + _ ≤ 8; rw [sn_cat]; omega) hd ⟨Nat.le_trans hc hrm.2.2.1, Nat.le_trans hs hrm.2.2.2⟩) hS0 hl K
def sn_LI (o idx : Nat) (M : sn_Md) : Prop := (Cond.methodLink (sn_rn o) idx M.1 ∈ sn_gw ∨ ∃ host, Cond.methodLinkNest (sn_rn o) idx M.1 host ∈ lw_tbl) ∧ M.1.name = "<init>" ∧ Cond.instanceMethod M.1 ∈ sn_gw ∧ M.2.2.2 = none
theorem sn_awI (kf : sn_KF γ κ o tab M (d + 1) mc ms) {idx nA : Nat} (hi : (pc, .invokespecial idx, len, nx, tg) ∈ tab) {M' : sn_Md} (mk : sn_MK M' nA) (lk : sn_LI o idx M') {a i : Nat} (hai : a = i + 1) {as : List Value} (hn : as.length = nA) (hct : (rest.map Value.category).sum ≤ 8) {r : Option Value} {h1 : sn_H} {mc' ms' : Nat} (hS : sn_Sp γ κ.2.1 d M' (.ref a :: as) h r h1 mc' ms') (hc : n + mc' ≤ mc) (hs : k + ms' ≤ ms)
    (K : sn_AW γ κ M.2.2.1 Q h1 nx lv (r.toList ++ rest) (n + mc') (k + ms')) : sn_AW γ κ M.2.2.1 Q h pc lv (as.reverse ++ .ref a :: rest) n k := by
  intro H locs ls hR hl hS0
  obtain ⟨hx, hb, hml, hown, hts, hGK, hsz, hlk, hrt, hT, hrm, hnm⟩ := kf
  obtain ⟨p, l, e, R, s, m, args, below, meth, c⟩ := κ
  obtain ⟨hd, hj⟩ := hT _ hi
  have hnx := sn_jok_nx hj
  have hln := sn_jok_len hj (by simp [sn_len])
  subst hln; subst hnx; subst hai
  obtain ⟨mk1, mk2, mk3, mk4⟩ := mk
  obtain ⟨⟨yc, yn, yd⟩, b', mL, rt⟩ := M'
  obtain ⟨lk1, lk2, lk3, lk4⟩ := lk
  dsimp only at *
  subst lk4
  have rm1 : (sn_rm d mc' ms').frames + 1 ≤ R.frames ∧ 8 + (mL + 11) + (sn_rm d mc' ms').locals ≤ R.locals := ⟨hrm.1, by show 8 + (mL + 11) + 40 * d ≤ _; omega⟩
  rcases lk1 with lk1 | ⟨host, lk1⟩
  · exact sn_callK (va_runI (As := as.map (sn_tr γ)) ⟨hx, hb, hml, hown, hts⟩ hS ⟨callB_of nA hts (sn_goodIn mk1) rfl rfl rfl (hts _ mk2) (hts _ lk1) mk3 rm1, lk2, hts _ lk3⟩ ⟨sn_blind, sn_pre hR hGK⟩ rfl (by rw [List.length_map]; exact hn) hl.1 (by show _ = _; rw [List.map_append, List.map_reverse]; rfl) (by show 2 * 0 + _ ≤ 8; rw [sn_cat]; omega) hd ⟨Nat.le_trans hc hrm.2.2.1, Nat.le_trans hs hrm.2.2.2⟩) hS0 hl K
  · exact sn_callK (va_runIN (As := as.map (sn_tr γ)) ⟨hx, hb, hml, hown, hts⟩ hS ⟨va_cnB nA hts (sn_goodIn mk1) rfl rfl rfl (hGK.2.1 _ lk1 rfl) (hts _ mk2) mk3 rm1, lk2, hts _ lk3⟩ ⟨sn_blind, sn_pre hR hGK⟩ rfl (by rw [List.length_map]; exact hn) hl.1 (by show _ = _; rw [List.map_append, List.map_reverse]; rfl) (by show 2 * 0 + _ ≤ 8; rw [sn_cat]; omega) hd ⟨Nat.le_trans hc hrm.2.2.1, Nat.le_trans hs hrm.2.2.2⟩) hS0 hl K
/-- a virtual call at an object of class ci goes to M' -/
def sn_LV (o idx ci : Nat) (M' : sn_Md) (nA : Nat) : Prop := ∃ q : vw_C, sn_cls[ci]? = some q ∧ ((Cond.methodLink (sn_rn o) idx M'.1 ∈ sn_gw ∧ Cond.instanceMethod M'.1 ∈ sn_gw ∧ Cond.selects q.1 M'.1 M'.1 ∈ sn_gw) ∨
  ∃ (x : MethodName) (owner : String), Cond.methodLink (sn_rn o) idx x ∈ sn_gw ∧ Cond.sameMethod x.cls owner x.name x.desc ∈ sn_gw ∧ Cond.selects q.1 x M'.1 ∈ sn_gw ∧ Cond.instanceMethod M'.1 ∈ sn_gw ∧
    (owner ≠ "java/lang/invoke/MethodHandle" ∧ owner ≠ "java/lang/invoke/VarHandle" ∧ (parseMethodDescriptor x.desc).map (fun d => d.parameters.length) = some nA) ∧
    (M'.1 = ⟨owner, x.name, x.desc⟩ ∨ (Cond.instanceMethod ⟨owner, x.name, x.desc⟩ ∈ sn_gw ∧ ∃ (b0 : ByteArray) (m0 : Nat) (r0 : Option FieldType), Cond.code ⟨owner, x.name, x.desc⟩ b0 m0 r0 ∈ sn_gw) ∨ Cond.declares ⟨owner, x.name, x.desc⟩ ∈ lw_tbl))
theorem sn_gi (w : Cond) (h : w ∈ sn_gw) : w ∈ sn_gw ∧ ((w.onTables && w.keeps) = true ∨ ∃ ty, w = .arrayClass ty) := ⟨h, good_of_word (sn_gw_good _ h).2⟩
theorem sn_awV (kf : sn_KF γ κ o tab M (d + 1) mc ms) {idx nA : Nat} (hi : (pc, .invokevirtual idx, len, nx, tg) ∈ tab) {M' : sn_Md} (mk : sn_MK M' nA) {ci : Nat} (lk : sn_LV o idx ci M' nA) {a : Nat} {fs : List Value} (ha : h[a]? = some (.inr (ci, fs))) {as : List Value} (hn : as.length = nA) (hct : (rest.map Value.category).sum ≤ 8) {r : Option Value} {h1 : sn_H} {mc' ms' : Nat} (hS : sn_Sp γ κ.2.1 d M' (.ref a :: as) h r h1 mc' ms') (hc : n + mc' ≤ mc) (hs : k + ms' ≤ ms)
    (K : sn_AW γ κ M.2.2.1 Q h1 nx lv (r.toList ++ rest) (n + mc') (k + ms')) : sn_AW γ κ M.2.2.1 Q h pc lv (as.reverse ++ .ref a :: rest) n k := by
  intro H locs ls hR hl hS0
  obtain ⟨hx, hb, hml, hown, hts, hGK, hsz, hlk, hrt, hT, hrm, hnm⟩ := kf
  obtain ⟨p, l, e, R, s, m, args, below, meth, c⟩ := κ
  obtain ⟨hd, hj⟩ := hT _ hi
  have hnx := sn_jok_nx hj
  have hln := sn_jok_len hj (by simp [sn_len])
  subst hln; subst hnx
  obtain ⟨z, rfl⟩ := hR.ne0 ha (fun q => by cases q)
  obtain ⟨mk1, mk2, mk3, mk4⟩ := mk
  obtain ⟨q, hq, lk⟩ := lk
  dsimp only at *
  have rm1 : (sn_rm d mc' ms').frames + 1 ≤ R.frames ∧ 8 + (M'.2.2.1 + 11) + (sn_rm d mc' ms').locals ≤ R.locals := ⟨hrm.1, by show 8 + (M'.2.2.1 + 11) + 40 * d ≤ _; omega⟩
  have pv : PreV s H q.1 (γ.2.2.2 + z) (sn_Pc γ (.ref (z + 1) :: as) h) (as.map (sn_tr γ)) := ⟨sn_blind, sn_rcv hGK.1 hR ha hq, sn_pre hR hGK⟩
  rcases lk with ⟨lk1, lk2, lk3⟩ | ⟨x, owner, lk1, lk2, lk3, lk4, lk5, lk6⟩
  · exact sn_callK (va_runV (As := as.map (sn_tr γ)) ⟨hx, hb, hml, hown, hts⟩ hS ⟨callB_of nA hts (sn_goodIn mk1) rfl rfl rfl (hts _ mk2) (hts _ lk1) mk3 rm1, hts _ lk2, hts _ lk3⟩ pv rfl (by rw [List.length_map]; exact hn) hl.1 (by show _ = _; rw [List.map_append, List.map_reverse]; rfl) (by show 2 * 0 + _ ≤ 8; rw [sn_cat]; omega) hd ⟨Nat.le_trans hc hrm.2.2.1, Nat.le_trans hs hrm.2.2.2⟩) hS0 hl K
  · have gU : GoodIn sn_gw (va_wsU (sn_rn o) idx q.1 owner x M'.1 (sn_ws M')) := by
      intro w hw
      unfold va_wsU at hw
      rcases List.mem_append.mp hw with hw | hw
      · simp only [List.mem_cons, List.not_mem_nil, or_false] at hw
        rcases hw with rfl | rfl | rfl | rfl | rfl <;> exact sn_gi _ (by assumption)
      · exact sn_goodIn mk1 w hw
    have cu : va_CU R s args (sn_rn o) q.1 owner idx x M'.1 M'.2.1 M'.2.2.1 M'.2.2.2 (sn_ws M') (sn_rm d mc' ms') mc' ms' nA := by
      rcases lk6 with lk6 | ⟨lk6, b0, m0, r0, lk7⟩ | lk6
      · exact va_cwU nA hts gU rfl rfl rfl lk6 lk5 rm1
      · refine va_cwO nA hts ?_ rfl rfl rfl lk7 lk5 rm1
        intro w hw
        unfold va_wsO at hw
        rcases List.mem_append.mp hw with hw | hw
        · simp only [List.mem_cons, List.not_mem_nil, or_false] at hw
          rcases hw with rfl | rfl | rfl | rfl | rfl | rfl <;> exact sn_gi _ (by assumption)
        · exact sn_goodIn mk1 w hw
      · exact va_cwA nA hts gU rfl rfl rfl (hGK.2.1 _ lk6 rfl) lk5 rm1
    exact sn_callK (va_runU (As := as.map (sn_tr γ)) ⟨hx, hb, hml, hown, hts⟩ hS cu pv rfl (by rw [List.length_map]; exact hn) hl.1 (by show _ = _; rw [List.map_append, List.map_reverse]; rfl) (by show 2 * 0 + _ ≤ 8; rw [sn_cat]; omega) hd ⟨Nat.le_trans hc hrm.2.2.1, Nat.le_trans hs hrm.2.2.2⟩) hS0 hl K
end AW
