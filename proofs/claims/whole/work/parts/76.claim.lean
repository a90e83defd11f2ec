/-! THE CLAIM OUT OF ONE WALK OF THE LAW'S BODY. Your part is whole_start (and what it stands on); all else here is the same for every law, but numbers. -/
def R_law : String := "SureNoesLaw"
def lw_P (b : Addr) (xs : List Int32) (args : Array Value) (s : State) : Prop := args = #[.ref b] ∧ s.IntsAt b xs ∧ xs.length ≤ 3072 ∧ (Jvm.Cond.and given_1 narrow_1).before args s = true
def lw_Q (_ : Array Value) (s : State) (o : Outcome) (t : State) : Prop := o = .returned (some (.int 1)) ∧ Framed s o t [] 600000 7302250
def lw_Z (below : List Frame) (a : Array Value) (s : State) : State → Prop := fun t => ∃ o, t.status = .running ∧ Ended t below o ∧ lw_Q a s o t
/-- the law's own end, with 1 on the stack, nothing written that was there before, its room as the claim has it -/
theorem lw_ret {p : Program} {l : Launch} {e : Env} {s : State} {m : MethodId} {below : List Frame} {meth : Method} {c : Code} {b : Nat} (hx : p.tables.exec = Jvm.exec) (hb : c.code = code) (hr : meth.sig.returnType = ret) (hlocks : meth.locks = false) {pc : Nat} {H : Heap} {ls : Array Slot} (hdg : decode code pc = .ok (.ireturn, 1)) : W p l e room_1 s m #[Value.ref b] below meth c H [] 600000 7302250 (lw_Z below #[Value.ref b] s) (F0 m pc ls [.int 1]) := by
  intro T hT X
  obtain ⟨fs, hret, hrun, hended, hW, hframe⟩ := X.leave (v := some (.int 1)) (hlocks := hlocks) (fun h => by rw [hr] at h; cases h)
  have hmeth' : T.vm.method? m = some meth := X.method'
  refine ⟨T.setFrames fs, ?_, .returned (some (.int 1)), hrun, hended, rfl, ⟨_, rfl⟩, hW, hframe⟩
  jvm_step X.here [X.here.top, hx, hb, hdg, hmeth', hr, ret, narrow_b1]
  (try refine ⟨rfl, ?_⟩); (try refine ⟨rfl, ?_⟩)
  first | (intro acts; rw [hret _ acts rfl rfl rfl]) | rw [hret _ _ rfl rfl rfl]
  exact Steps.refl _
/-- what holds at the law's entry: the machine, the code, the tables' words (any of lw_tbl by 'hts w (by decide +kernel)'), the script of L ints xs at the cell b, what the Statement gives of the start (any of its parts by flat_of_before) -/
def lw_At (p : Program) (s : State) (m : MethodId) (meth : Method) (c : Code) (b L : Nat) (xs : Nat → Int32) : Prop :=
  p.tables.exec = Jvm.exec ∧ c.code = code ∧ meth.sig.returnType = ret ∧ c.maxLocals = 4 ∧ s.vm.findClass R_law = some m.cls ∧ (∀ w ∈ lw_tbl, w.before #[Value.ref b] s = true) ∧ va_X b L xs s s.heap ∧ b < s.heap.size ∧ meth.locks = false ∧ (Jvm.Cond.and given_1 narrow_1).before #[Value.ref b] s = true ∧ meth.name = "law"
theorem ar_of {args : Array Value} {s : State} {ty : FieldType} (h : (Cond.arrayClass ty).before args s = true) : ∃ cA : ClassId, ArrOfT s cA ty ∧ s.vm.findClass ("[" ++ ty.toString) = some cA := by
  obtain ⟨c, k, comp, h1, h2, h3⟩ := Cond.arrayClass_spec h
  exact ⟨c, fun N z => ⟨fun k h => (by cases h), k, h2, comp, h3⟩, h1⟩
theorem ao_of {args : Array Value} {s : State} {C : String} (h : (Cond.arrayOver (.object C)).before args s = true) : ∃ cA : ClassId, ArrOfT s cA (.object C) ∧ va_RA s cA (.object C) := by
  obtain ⟨comp, c, k, h1, h2, h3, h4, h5⟩ := Cond.arrayOver_spec h
  exact ⟨c, fun N z => ⟨fun k h => (by cases h), k, h3, comp, h4⟩, k, comp, h3, h4, h1, h5⟩
theorem law_nc : ∀ q ∈ sn_nc, Cond.not (Cond.castable q.1 q.2) ∈ flatC (Jvm.Cond.and given_1 narrow_1) := by decide +kernel
theorem law_gk {args : Array Value} {s : State} (b : Nat) (hts : ∀ w ∈ lw_tbl, w.before args s = true) (hgv : (Jvm.Cond.and given_1 narrow_1).before args s = true) : ∃ (D : va_G) (dA : Nat → ClassId), sn_GK (D, dA, b, s.heap.size) s := by
  have hgw : ∀ w ∈ sn_gw, w.before args s = true := fun w hw => hts w (sn_gw_good w hw).1
  obtain ⟨c0, i0, k0⟩ := u_known (C := R_0) (T := T_0) (N := 6) (n := 6) hgw uw_0 (hgw _ tw_17)
  obtain ⟨c1, i1, k1⟩ := u_known (C := R_1) (T := T_1) (N := 25) (n := 25) hgw uw_1 (hgw _ tw_766)
  obtain ⟨c2, i2, k2⟩ := u_known (C := R_2) (T := T_2) (N := 2) (n := 2) hgw uw_2 (hgw _ tw_52)
  obtain ⟨c3, i3, k3⟩ := u_known (C := R_3) (T := T_3) (N := 6) (n := 6) hgw uw_3 (hgw _ tw_143)
  obtain ⟨c4, i4, k4⟩ := u_known (C := R_4) (T := T_4) (N := 6) (n := 6) hgw uw_4 (hgw _ tw_208)
  obtain ⟨c5, i5, k5⟩ := u_known (C := R_5) (T := T_5) (N := 6) (n := 6) hgw uw_5 (hgw _ tw_221)
  obtain ⟨c6, i6, k6⟩ := u_known (C := R_6) (T := T_6) (N := 10) (n := 10) hgw uw_6 (hgw _ tw_234)
  obtain ⟨c7, i7, k7⟩ := u_known (C := R_7) (T := T_7) (N := 9) (n := 9) hgw uw_7 (hgw _ tw_259)
  obtain ⟨c8, i8, k8⟩ := u_known (C := R_8) (T := T_8) (N := 9) (n := 9) hgw uw_8 (hgw _ tw_281)
  obtain ⟨c9, i9, k9⟩ := u_known (C := R_9) (T := T_9) (N := 1) (n := 1) hgw uw_9 (hgw _ tw_669)
  obtain ⟨a0, p0, r0⟩ := ar_of (hgw _ tw_206)
  obtain ⟨a1, p1, r1⟩ := ar_of (hgw _ tw_47)
  obtain ⟨a2, p2, r2⟩ := ar_of (hgw _ tw_847)
  obtain ⟨a3, p3, r3⟩ := ao_of (hts _ tn_25)
  obtain ⟨a4, p4, r4⟩ := ao_of (hts _ tn_27)
  refine ⟨(fun k => match k with | 0 => c0 | 1 => c1 | 2 => c2 | 3 => c3 | 4 => c4 | 5 => c5 | 6 => c6 | 7 => c7 | 8 => c8 | _ => c9, fun k => match k with | 0 => i0 | 1 => i1 | 2 => i2 | 3 => i3 | 4 => i4 | 5 => i5 | 6 => i6 | 7 => i7 | 8 => i8 | _ => i9), fun k => match k with | 0 => a0 | 1 => a1 | 2 => a2 | 3 => a3 | _ => a4, ⟨fun k q hq => ?_, fun k q hq => ?_⟩, fun w hw hn => va_Nw.of (sn_isN_on hn) (hts w hw), ⟨va_AO.of (hts _ tn_25), va_AO.of (hts _ tn_27)⟩, fun q hq => va_Nc.of (flat_of_before _ hgv _ (law_nc q hq))⟩
  · match k, hq with
    | 0, hq => obtain rfl : (R_0, T_0, 6) = q := Option.some.inj hq; exact k0
    | 1, hq => obtain rfl : (R_1, T_1, 25) = q := Option.some.inj hq; exact k1
    | 2, hq => obtain rfl : (R_2, T_2, 2) = q := Option.some.inj hq; exact k2
    | 3, hq => obtain rfl : (R_3, T_3, 6) = q := Option.some.inj hq; exact k3
    | 4, hq => obtain rfl : (R_4, T_4, 6) = q := Option.some.inj hq; exact k4
    | 5, hq => obtain rfl : (R_5, T_5, 6) = q := Option.some.inj hq; exact k5
    | 6, hq => obtain rfl : (R_6, T_6, 10) = q := Option.some.inj hq; exact k6
    | 7, hq => obtain rfl : (R_7, T_7, 9) = q := Option.some.inj hq; exact k7
    | 8, hq => obtain rfl : (R_8, T_8, 9) = q := Option.some.inj hq; exact k8
    | 9, hq => obtain rfl : (R_9, T_9, 1) = q := Option.some.inj hq; exact k9
    | k + 10, hq =>
      have z : k + 10 < 10 := (List.getElem?_eq_some_iff.mp hq).1
      omega
  · match k, hq with
    | 0, hq => obtain rfl : (a0, FieldType.int) = q := Option.some.inj hq; exact ⟨p0, r0⟩
    | 1, hq => obtain rfl : (a1, FieldType.long) = q := Option.some.inj hq; exact ⟨p1, r1⟩
    | 2, hq => obtain rfl : (a2, FieldType.byte) = q := Option.some.inj hq; exact ⟨p2, r2⟩
    | 3, hq => obtain rfl : (a3, FieldType.object "SureNoes$Law") = q := Option.some.inj hq; exact ⟨p3, r3⟩
    | 4, hq => obtain rfl : (a4, FieldType.object "SureNoes$Book") = q := Option.some.inj hq; exact ⟨p4, r4⟩
    | k + 5, hq =>
      have z : k + 5 < 5 := (List.getElem?_eq_some_iff.mp hq).1
      omega
theorem whole_start {p : Program} {e : Env} {s : State} {m : MethodId} {below : List Frame} {meth : Method} {c : Code} (l : Launch) {b L : Nat} {xs : Nat → Int32} (hL : L ≤ 3072) (C0 : lw_At p s m meth c b L xs) : W p l e room_1 s m #[Value.ref b] below meth c s.heap [] 0 0 (lw_Z below #[Value.ref b] s) (entryFrame m ([Value.ref b] : List Value).toArray 4) := by
  obtain ⟨hx, hb, hr, hml, hown, hts, hX, hbl, hlocks, hgv, hnm⟩ := C0
  obtain ⟨D, dA, hGK⟩ := law_gk b hts hgv
  obtain ⟨r, h', ⟨K0, K⟩, rfl, hl1, hl2⟩ := law_all (L := L) (xs := xs) hL
  have hR : sn_HR (D, dA, b, s.heap.size) [sn_c0] s.heap := ⟨rfl, rfl, fun i c hi => absurd hi (by simp)⟩
  have kf : sn_KF (D, dA, b, s.heap.size) (p, l, e, room_1, s, m, #[Value.ref b], below, meth, c) me_Law.1 me_Law.2.1 me_Law.2.2 21 600000 7302250 :=
    ⟨hx, hb, hml, hown, fun w hw => hts w (sn_gw_good w hw).1, hGK, Nat.le_refl _, hlocks, hr, dk_Law, ⟨Nat.le_of_ble_eq_true rfl, Nat.le_of_ble_eq_true rfl, Nat.le_of_ble_eq_true rfl, Nat.le_of_ble_eq_true rfl⟩, hnm⟩
  have K1 := K (D, dA, b, s.heap.size) (p, l, e, room_1, s, m, #[Value.ref b], below, meth, c) 600000 7302250 (lw_Z below #[Value.ref b] s) 0 0 kf ⟨hX, hbl, Nat.le_refl _⟩ (by omega) (by omega) ?_
  · have K2 := K1 s.heap [] _ hR (sn_entry (D, dA, b, s.heap.size) (args := [.ref 0]) (nL := 4) rfl) va_S.rf
    rw [lg_entry_eq]
    exact K2
  · intro pcR iR ls H locs hd hrt hR1 hS
    cases iR <;> first | exact False.elim hrt | skip
    show W p l e room_1 s m #[Value.ref b] below meth c H locs _ _ _ (F0 m pcR ls [.int 1])
    refine va_forget (fun q hq => hS.2.2 q hq) ?_
    refine W.widen (k := 600000) (n := 7302250) (by omega) (by omega) ?_
    exact lw_ret hx hb hr hlocks hd
-- ===== YOUR PART ENDS =====
set_option maxHeartbeats 4000000 in
theorem lw_walk (l : Launch) (b : Addr) (xs : List Int32) : MetFree l x (headSpec (Jvm.Cond.code x code maxLocals ret :: tables_1) room_1) (lw_P b xs) (fun _ _ _ _ _ => True) lw_Q := by
  refine MetFree.of_bodyS (code := code) (maxLocals := maxLocals) (ret := ret) (by decide) ?_ ?_
  · intro args s m h hn
    obtain ⟨meth, c, h1, h2, h3, h4, h5, h6, -, -⟩ := Cond.code_spec hn (atoms_spec (ws := Jvm.Cond.code x code maxLocals ret :: tables_1) h _ List.mem_cons_self)
    exact ⟨meth, c, h1, h2, h3, h4, h5, h6⟩
  · intro p e s m args below meth c s₁ B hml0 hP _
    obtain ⟨rfl, hx, hbd, hgv⟩ := hP
    obtain ⟨scr, harrAt, hlist, hof, hsmall⟩ := hx
    obtain ⟨hcb, hkn, -, -⟩ := State.arrayAt?_spec harrAt
    have hown : s.vm.findClass R_law = some m.cls := findClass_of_methodNamed B.named
    have hts0 : ∀ c ∈ (Jvm.Cond.code x code maxLocals ret :: tables_1), c.before #[Value.ref b] s = true := atoms_spec (ws := Jvm.Cond.code x code maxLocals ret :: tables_1) B.pre
    have hts : ∀ w ∈ lw_tbl, w.before #[Value.ref b] s = true := k2_hts_sels lw_privs (fun w hw => hts0 w (List.mem_cons_of_mem _ hw)) lw_privs_ok
    have hml : c.maxLocals = 4 := B.maxLocals_eq (hts0 _ List.mem_cons_self)
    have X₀ : Stand p l e room_1 s m #[Value.ref b] below meth c s₁ [] 0 0 := Stand.of_body B
    have hh0 : s₁.heap = s.heap := by rw [B.state]; rfl
    have hsz : scr.slots.size = xs.length := by rw [← Array.length_toList, hlist, List.length_map]
    have hval : ∀ j : Nat, j < xs.length → scr.slots[j]? = some (.int (xs.getD j 0)) := fun j hj => by
      rw [← Array.getElem?_toList, hlist]
      simp [hj]
    have hbl : b < s.heap.size := (Array.getElem?_eq_some_iff.mp hcb).1
    have hX : va_X b xs.length (fun j => xs.getD j 0) s s.heap := ⟨scr, hcb, hof, hkn, hsz, hval⟩
    have K : W p l e room_1 s m #[Value.ref b] below meth c s₁.heap [] 0 0 (lw_Z below #[Value.ref b] s) (entryFrame m ([Value.ref b] : List Value).toArray 4) := by
      rw [hh0]
      exact whole_start l hbd ⟨B.exec, B.bytes, B.returns, hml, hown, hts, hX, hbl, B.notSynchronized, hgv, (name_of_methodNamed B.named B.method).1⟩
    obtain ⟨t, a1, o, b1, b2, b3⟩ := K s₁ rfl X₀
    exact ⟨t, o, a1, b1, b2, b3⟩
theorem lw_pre_spec {args : Array Value} {s : State} (h : (Jvm.Cond.and given_1 narrow_1).before args s = true) (hr : rest_1_c.before args s = true) : ∃ (b : Addr) (xs : List Int32), lw_P b xs args s := by
  have hs := flat_of_before _ h
  have hq := flat_of_before _ hr
  have hc : (Cond.count 1).before args s = true := hs _ (by decide +kernel)
  have harr : (Cond.arrayOf (.arg 0) .int).before args s = true := hs _ (by decide +kernel)
  have hle : (Cond.le (.length (.arg 0)) (.int 3072)).before args s = true := hs _ (by decide +kernel)
  have hlen : (Cond.isInt (.length (.arg 0))).before args s = true := hq _ (by decide +kernel)
  have hall : (Cond.all (.arg 0) (.isInt (.elem (.arg 0) (.index 0)))).before args s = true := hq _ (by decide +kernel)
  obtain ⟨b, xs, hb, hx⟩ := State.ints_of_pre rfl harr hlen hall
  have hsm : xs.length < 2 ^ 31 := hx.choose_spec.2.2.2
  have hev : (Term.length (.arg 0)).eval args s none [] s = some (.int xs.length.toInt32) := hx.length_eval hb
  have hv := Cond.le_ints hev (show (Term.int 3072).eval args s none [] s = some (.int 3072) from rfl)
  have hd : xs.length.toInt32 ≤ 3072 := by
    simpa [Cond.before, Cond.holds, hv] using hle
  have hN : xs.length ≤ 3072 := (Int32.ofNat_le_ofNat hsm (by decide)).mp (show Int32.ofNat xs.length ≤ Int32.ofNat 3072 from hd)
  exact ⟨b, xs, Cond.one_arg hc (show args[0]? = some (.ref b) from hb), hx, hN, h⟩
theorem lw_comes (l : Launch) : Comes l x (Jvm.Cond.code x code maxLocals ret :: tables_1) room_1 (fun tb e args s => Calls_1 tb e args s ∧ rest_1 tb e args s ∧ Pre_1 tb e args s)
    (fun _ _ args s o t => lw_Q args s o t) := by
  intro p e ha hc hk s m args below hf hfit hheap happ hpre
  obtain ⟨b, xs, hP⟩ := lw_pre_spec hpre.2.2 hpre.2.1
  obtain ⟨k, o, h1, h2, h3, hQ⟩ := lw_walk l b xs p e ha hc hk s m args below hf ((Spec.applies_iff_loose hf).mp happ).1 hP trivial
  exact ⟨k, o, h1, h2, h3, hQ⟩
theorem lw_frame {s t : State} {o : Outcome} {args : Array Value} (h : Framed s o t [] 600000 7302250) :
    Framed s o t (fieldLocs frame_1_writes args s ++ arrayLocs frame_1_arrays args s ++ staticLocs frame_1_statics s) 600000 7302250 := h
theorem lw_limb (L : Cond) (hL : ∀ (args : Array Value) (s t : State), L.after args s (.returned (some (.int 1))) t = true) :
    ArmFor flags0 classFile x code maxLocals ret World_1 tables_1 room_1 Calls_1 rest_1 Pre_1
      (fun tb e a s o t => postC L tb e a s o t ∧ Framed s o t (fieldLocs frame_1_writes a s ++ arrayLocs frame_1_arrays a s ++ staticLocs frame_1_statics s) 600000 7302250) := by
  intro l _ _ _ p e ha hc hk s m args below hf hfit hheap happ hpre
  obtain ⟨k, o, h1, h2, h3, rfl, hF⟩ := lw_comes l p e ha hc hk s m args below hf hfit hheap happ hpre
  exact ⟨k, _, h1, h2, h3, hL args s _, lw_frame hF⟩
theorem i_vc : Claimed_1_1 ∧ Claimed_1_2 := ⟨lw_limb limb_1_1 (fun args s t => by simp [limb_1_1, Cond.after, Cond.holds, Cond.value]), lw_limb limb_1_2 (fun args s t => Cond.after_iff.mpr (by
  first | (rw [show limb_1_2 = Cond.eq .result (.int 1) from rfl, Cond.eq_ints (x := 1) (y := 1) rfl rfl]; simp; done) | (simp [limb_1_2, Cond.value, Term.eval]; done)))⟩
