/-! THE LAYER: cells by their number (0 is the script's), values by it; what a machine of cells does, tied to the real one by sn_HR -/
def sn_ad (b sz i : Nat) : Nat := match i with
  | 0 => b
  | k + 1 => sz + k
abbrev sn_G : Type := va_G × (Nat → ClassId) × Nat × Nat
abbrev sn_H : Type := List va_E
def sn_tr (γ : sn_G) (v : Value) : Value := match v with
  | .ref i => .ref (sn_ad γ.2.2.1 γ.2.2.2 i)
  | .int x => .int x
  | .long x => .long x
  | .float x => .float x
  | .double x => .double x
  | .null => .null
  | .retAddr x => .retAddr x
def sn_te (γ : sn_G) (c : va_E) : va_E := match c with
  | .inl (k, n, .inl f) => .inl (γ.2.1 k, n, .inl f)
  | .inl (k, n, .inr (.inl f)) => .inl (γ.2.1 k, n, .inr (.inl f))
  | .inl (k, n, .inr (.inr (.inl f))) => .inl (γ.2.1 k, n, .inr (.inr (.inl f)))
  | .inl (k, n, .inr (.inr (.inr (.inl f)))) => .inl (γ.2.1 k, n, .inr (.inr (.inr (.inl f))))
  | .inl (k, n, .inr (.inr (.inr (.inr f)))) => .inl (γ.2.1 k, n, .inr (.inr (.inr (.inr fun j => (f j).map (sn_ad γ.2.2.1 γ.2.2.2)))))
  | .inr (ci, fs) => .inr (ci, fs.map (sn_tr γ))
def sn_c0 : va_E := .inl (9, 0, .inl fun _ => 0)
def sn_HR (γ : sn_G) (h : sn_H) (H : Heap) : Prop := h[0]? = some sn_c0 ∧ H.size + 1 = γ.2.2.2 + h.length ∧ ∀ (i : Nat) (c : va_E), h[i + 1]? = some c → va_at γ.1 sn_cls (γ.2.2.2 + i, sn_te γ c) H
def sn_tys (γ : sn_G) : List (ClassId × FieldType) := [(γ.2.1 0, .int), (γ.2.1 1, .long), (γ.2.1 2, .byte), (γ.2.1 3, .object "SureNoes$Law"), (γ.2.1 4, .object "SureNoes$Book")]
def sn_isN (w : Cond) : Bool := match w with
  | .methodLinkNest .. => true
  | .declares _ => true
  | .castable .. => true
  | _ => false
def sn_nc : List (String × String) := [("SureNoes$Plain", "SureNoes$Counted"), ("SureNoes$Plain", "SureNoes$Parted"), ("SureNoes$Plain", "SureNoes$Pushed"), ("SureNoes$Plain", "SureNoes$Folded"), ("SureNoes$Plain", "SureNoes$Layered"), ("SureNoes$Counted", "SureNoes$Parted"), ("SureNoes$Counted", "SureNoes$Pushed"), ("SureNoes$Counted", "SureNoes$Folded"), ("SureNoes$Counted", "SureNoes$Layered"), ("SureNoes$Parted", "SureNoes$Counted"), ("SureNoes$Parted", "SureNoes$Pushed"), ("SureNoes$Parted", "SureNoes$Folded"), ("SureNoes$Parted", "SureNoes$Layered"), ("SureNoes$Pushed", "SureNoes$Plain"), ("SureNoes$Pushed", "SureNoes$Counted"), ("SureNoes$Pushed", "SureNoes$Parted"), ("SureNoes$Pushed", "SureNoes$Folded"), ("SureNoes$Pushed", "SureNoes$Layered"), ("SureNoes$Folded", "SureNoes$Counted"), ("SureNoes$Folded", "SureNoes$Pushed"), ("SureNoes$Folded", "SureNoes$Layered"), ("SureNoes$Layered", "SureNoes$Counted"), ("SureNoes$Layered", "SureNoes$Parted"), ("SureNoes$Layered", "SureNoes$Pushed"), ("SureNoes$Layered", "SureNoes$Folded")]
def sn_GN (U : State) : Prop := (∀ w ∈ lw_tbl, sn_isN w = true → va_Nw w U) ∧ (va_AO "SureNoes$Law" U ∧ va_AO "SureNoes$Book" U) ∧ ∀ q ∈ sn_nc, va_Nc q.1 q.2 U
theorem sn_isN_on {w : Cond} (h : sn_isN w = true) : w.onTables = true := by
  cases w <;> first | rfl | cases h
theorem sn_GN.warm {s U : State} (hW : s.WarmedH U.vm) (h : sn_GN s) : sn_GN U := by
  refine ⟨fun w hw hn => ?_, ⟨h.2.1.1.moved hW.alike, h.2.1.2.moved hW.alike⟩, fun q hq => (h.2.2 q hq).moved hW.alike⟩
  have h1 := h.1 w hw hn
  cases w <;> first | exact va_Nw.warmM hW h1 | exact va_Nw.warmD hW h1 | exact va_Nw.warmC hW h1 | cases hn
theorem sn_GN.same {s U : State} (e : s.vm = U.vm) (h : sn_GN s) : sn_GN U := by
  have ha : s.vm.Alike U.vm := by rw [← e]; exact Vm.Alike.refl s.vm
  exact ⟨fun w hw hn => va_Nw.same (sn_isN_on hn) e (h.1 w hw hn), ⟨h.2.1.1.moved ha, h.2.1.2.moved ha⟩, fun q hq => (h.2.2 q hq).moved ha⟩
def sn_GK (γ : sn_G) (U : State) : Prop := va_K γ.1 sn_cls (sn_tys γ) U ∧ sn_GN U
def sn_rm (d mc ms : Nat) : Room := { frames := d, cells := mc, slots := ms, locals := 40 * d }
def sn_A (γ : sn_G) : Nat → Prop := fun q => γ.2.2.2 ≤ q
def sn_Q (γ : sn_G) (r : Option Value) (h' : sn_H) : Array Value → State → Outcome → State → Prop := fun _ st oc t => oc = .returned (r.map (sn_tr γ)) ∧ sn_HR γ h' t.heap ∧ va_F (sn_A γ) st t
def sn_ws (M : sn_Md) : List Cond := .code M.1 M.2.1 M.2.2.1 M.2.2.2 :: sn_gw
def sn_Pc (γ : sn_G) (args : List Value) (h : sn_H) : Array Value → State → Prop := va_Pc (args.map (sn_tr γ)) (fun U => sn_HR γ h U.heap ∧ sn_GK γ U)
/-- METHOD M, called with args where the cells are h, answers r and leaves h'; d levels of calls, mc new cells of ms slots at most -/
def sn_Sp (γ : sn_G) (l : Launch) (d : Nat) (M : sn_Md) (args : List Value) (h : sn_H) (r : Option Value) (h' : sn_H) (mc ms : Nat) : Prop :=
  Met l M.1 (sn_ws M) (sn_rm d mc ms) (sn_Pc γ args h) (sn_Q γ r h') mc ms (sn_A γ)
abbrev sn_K : Type := Program × Launch × Env × Room × State × MethodId × Array Value × List Frame × Method × Code
def sn_real (v : Value) : Bool := match v with
  | .retAddr _ => false
  | _ => true
/-- the locals by their places; a place that holds nothing known: .retAddr 0 -/
def sn_lo (i : Nat) (L : List Value) : List (Nat × Value) := match L with
  | [] => []
  | v :: r => bif sn_real v then (i, v) :: sn_lo (i + 1) r else sn_lo (i + 1) r
def sn_lov (γ : sn_G) (L : List Value) : List (Nat × Value) := (sn_lo 0 L).map fun q => (q.1, sn_tr γ q.2)
/-- the walk: at pc, with cells h, locals lv, stack st -/
def sn_AW (γ : sn_G) (κ : sn_K) (nL : Nat) (Q : State → Prop) (h : sn_H) (pc : Nat) (lv : List Value) (st : List Value) (n k : Nat) : Prop :=
  ∀ (H : Heap) (locs : List Loc) (ls : Array Slot), sn_HR γ h H → lv_has ls nL (sn_lov γ lv) → va_S (sn_A γ) κ.2.2.2.2.1.heap H locs →
    W κ.1 κ.2.1 κ.2.2.1 κ.2.2.2.1 κ.2.2.2.2.1 κ.2.2.2.2.2.1 κ.2.2.2.2.2.2.1 κ.2.2.2.2.2.2.2.1 κ.2.2.2.2.2.2.2.2.1 κ.2.2.2.2.2.2.2.2.2 H locs n k Q (F0 κ.2.2.2.2.2.1 pc ls (st.map (sn_tr γ)))
/-- what holds all through a method's walk -/
def sn_KF (γ : sn_G) (κ : sn_K) (o : Nat) (tab : sn_Tb) (M : sn_Md) (d mc ms : Nat) : Prop :=
  κ.1.tables.exec = Jvm.exec ∧ κ.2.2.2.2.2.2.2.2.2.code = M.2.1 ∧ κ.2.2.2.2.2.2.2.2.2.maxLocals = M.2.2.1 ∧ κ.2.2.2.2.1.vm.findClass (sn_rn o) = some κ.2.2.2.2.2.1.cls ∧ (∀ w ∈ sn_gw, w.before κ.2.2.2.2.2.2.1 κ.2.2.2.2.1 = true) ∧ sn_GK γ κ.2.2.2.2.1 ∧ γ.2.2.2 ≤ κ.2.2.2.2.1.heap.size ∧ κ.2.2.2.2.2.2.2.2.1.locks = false ∧ κ.2.2.2.2.2.2.2.2.1.sig.returnType = M.2.2.2 ∧ sn_tabOk M.2.1 tab ∧ (d ≤ κ.2.2.2.1.frames ∧ 40 * d ≤ κ.2.2.2.1.locals ∧ mc ≤ κ.2.2.2.1.cells ∧ ms ≤ κ.2.2.2.1.slots) ∧ κ.2.2.2.2.2.2.2.2.1.name = M.1.name
theorem sn_tr_cat (γ : sn_G) (v : Value) : (sn_tr γ v).category = v.category := by cases v <;> rfl
-- HEAPS
theorem sn_HR.sz {γ : sn_G} {h : sn_H} {H : Heap} (hR : sn_HR γ h H) : γ.2.2.2 ≤ H.size := by
  have h1 : 0 < h.length := (List.getElem?_eq_some_iff.mp hR.1).1
  have := hR.2.1
  omega
theorem sn_HR.new {γ : sn_G} {h : sn_H} {H : Heap} (hR : sn_HR γ h H) : sn_ad γ.2.2.1 γ.2.2.2 h.length = H.size := by
  have h1 : 0 < h.length := (List.getElem?_eq_some_iff.mp hR.1).1
  have := hR.2.1
  obtain ⟨k, hk⟩ : ∃ k, h.length = k + 1 := ⟨h.length - 1, by omega⟩
  rw [hk]
  show γ.2.2.2 + k = H.size
  omega
theorem sn_HR.lt {γ : sn_G} {h : sn_H} {H : Heap} (hR : sn_HR γ h H) {i : Nat} {c : va_E} (hi : h[i + 1]? = some c) : γ.2.2.2 + i < H.size := by
  have h1 : i + 1 < h.length := (List.getElem?_eq_some_iff.mp hi).1
  have := hR.2.1
  omega
theorem sn_HR.set {γ : sn_G} {h : sn_H} {H H1 : Heap} (hR : sn_HR γ h H) {i : Nat} {c c' : va_E} (hi : h[i + 1]? = some c) (hat : va_at γ.1 sn_cls (γ.2.2.2 + i, sn_te γ c') H1) (hz : H1.size = H.size) (ho : ∀ q, q ≠ γ.2.2.2 + i → H1[q]? = H[q]?) : sn_HR γ (h.set (i + 1) c') H1 := by
  refine ⟨?_, ?_, fun j e hj => ?_⟩
  · rw [List.getElem?_set_ne (by omega)]; exact hR.1
  · rw [List.length_set, hz]; exact hR.2.1
  · by_cases hij : i = j
    · subst hij
      have hl : i + 1 < h.length := (List.getElem?_eq_some_iff.mp hi).1
      rw [List.getElem?_set_self hl] at hj
      cases hj
      exact hat
    · rw [List.getElem?_set_ne (by omega)] at hj
      exact (hR.2.2 j e hj).kept (ho _ (by show γ.2.2.2 + j ≠ _; omega))
theorem sn_HR.push {γ : sn_G} {h : sn_H} {H H1 : Heap} (hR : sn_HR γ h H) {c : va_E} (hat : va_at γ.1 sn_cls (H.size, sn_te γ c) H1) (hz : H1.size = H.size + 1) (ho : ∀ q, q < H.size → H1[q]? = H[q]?) : sn_HR γ (h ++ [c]) H1 := by
  have h1 : 0 < h.length := (List.getElem?_eq_some_iff.mp hR.1).1
  refine ⟨?_, ?_, fun j e hj => ?_⟩
  · rw [List.getElem?_append_left h1]; exact hR.1
  · rw [List.length_append, List.length_singleton, hz]; have := hR.2.1; omega
  · by_cases hl : j + 1 < h.length
    · rw [List.getElem?_append_left hl] at hj
      exact (hR.2.2 j e hj).kept (ho _ (hR.lt hj))
    · rw [List.getElem?_append_right (by omega)] at hj
      have hz2 : j + 1 - h.length < 1 := (List.getElem?_eq_some_iff.mp hj).1
      rw [show j + 1 - h.length = 0 by omega] at hj
      cases hj
      have := hR.2.1
      rw [show γ.2.2.2 + j = H.size by omega]
      exact hat
theorem sn_HR.ne0 {γ : sn_G} {h : sn_H} {H : Heap} (hR : sn_HR γ h H) {a : Nat} {c : va_E} (hi : h[a]? = some c) (hc : c ≠ sn_c0) : ∃ i, a = i + 1 := by
  cases a with
  | zero => exact absurd (Option.some.inj (hi.symm.trans hR.1)) hc
  | succ i => exact ⟨i, rfl⟩
theorem sn_va_P1 {D : va_G} {cl : List vw_C} {q : Nat × va_E} {H : Heap} (h : va_at D cl q H) : va_P D cl [q] H := by
  intro k x hk
  have hz : k < 1 := (List.getElem?_eq_some_iff.mp hk).1
  rw [show k = 0 by omega] at hk
  cases hk
  exact h
-- LOCALS
theorem sn_lo_mem {L : List Value} {i j : Nat} {w : Value} : (j, w) ∈ sn_lo i L ↔ ∃ k, j = i + k ∧ L[k]? = some w ∧ sn_real w = true := by
  induction L generalizing i with
  | nil => simp [sn_lo]
  | cons v r ih =>
    unfold sn_lo
    constructor
    · intro hm
      cases hv : sn_real v with
      | true =>
        rw [hv, cond_true] at hm
        rcases List.mem_cons.mp hm with q | q
        · cases q; exact ⟨0, rfl, rfl, hv⟩
        · obtain ⟨k, h1, h2, h3⟩ := ih.mp q
          exact ⟨k + 1, by omega, h2, h3⟩
      | false =>
        rw [hv, cond_false] at hm
        obtain ⟨k, h1, h2, h3⟩ := ih.mp hm
        exact ⟨k + 1, by omega, h2, h3⟩
    · rintro ⟨k, h1, h2, h3⟩
      cases k with
      | zero =>
        have e : v = w := Option.some.inj h2
        subst e; subst h1
        rw [h3, cond_true]
        exact List.mem_cons_self
      | succ k =>
        have h4 : (j, w) ∈ sn_lo (i + 1) r := ih.mpr ⟨k, by omega, h2, h3⟩
        cases hv : sn_real v with
        | true => rw [cond_true]; exact List.mem_cons_of_mem _ h4
        | false => rw [cond_false]; exact h4
def sn_gl (L : List Value) (k : Nat) : Option Value := match L with
  | [] => none
  | v :: r => match k with
    | 0 => some v
    | j + 1 => sn_gl r j
theorem sn_gl_eq (L : List Value) (k : Nat) : sn_gl L k = L[k]? := by
  induction L generalizing k with
  | nil => simp [sn_gl]
  | cons v r ih =>
    cases k with
    | zero => rfl
    | succ j => exact ih j
def sn_kill (L : List Value) (k : Nat) : List Value := match k with
  | 0 => L
  | j + 1 => match sn_gl L j with
    | some (.long _) => L.set j (.retAddr 0)
    | some (.double _) => L.set j (.retAddr 0)
    | _ => L
def sn_s1 (L : List Value) (k : Nat) (v : Value) : List Value := (sn_kill L k).set k v
def sn_s2 (L : List Value) (k : Nat) (v : Value) : List Value := ((sn_kill L k).set k v).set (k + 1) (.retAddr 0)
theorem sn_set_dead {L : List Value} {j k : Nat} {w : Value} (hk : (L.set j (.retAddr 0))[k]? = some w) (hr : sn_real w = true) : L[k]? = some w ∧ k ≠ j := by
  by_cases e : j = k
  · subst e
    rw [List.getElem?_set_self'] at hk
    cases hq : L[j]? with
    | none => rw [hq] at hk; cases hk
    | some z => rw [hq] at hk; cases hk; cases hr
  · rw [List.getElem?_set_ne e] at hk
    exact ⟨hk, fun q => e q.symm⟩
theorem sn_kill_get {L : List Value} {i k : Nat} {w : Value} (hk : (sn_kill L i)[k]? = some w) (hr : sn_real w = true) : L[k]? = some w ∧ ¬ (k + 1 = i ∧ w.category = 2) := by
  cases i with
  | zero => exact ⟨hk, fun q => by omega⟩
  | succ j =>
    simp only [sn_kill] at hk
    split at hk
    · rename_i x hx
      obtain ⟨h1, h2⟩ := sn_set_dead hk hr
      exact ⟨h1, fun q => h2 (by omega)⟩
    · rename_i x hx
      obtain ⟨h1, h2⟩ := sn_set_dead hk hr
      exact ⟨h1, fun q => h2 (by omega)⟩
    · rename_i h1 h2
      refine ⟨hk, fun q => ?_⟩
      have e : k = j := by omega
      subst e
      have h3 := sn_gl_eq L k
      rw [hk] at h3
      cases w with
      | long x => exact h1 x h3
      | double x => exact h2 x h3
      | _ => simp [Value.category] at q
theorem sn_L1 {γ : sn_G} {ls : Array Slot} {nL : Nat} {L : List Value} {i : Nat} {v : Value} (h : lv_has ls nL ((i, sn_tr γ v) :: (sn_lov γ L).filter (fun q => !(q.1 == i) && !(q.1 + 1 == i && q.2.category == 2)))) : lv_has ls nL (sn_lov γ (sn_s1 L i v)) := by
  refine ⟨h.1, h.2.1, fun q hq => h.2.2 q ?_⟩
  obtain ⟨⟨j, w⟩, hm, rfl⟩ := List.mem_map.mp hq
  obtain ⟨k, e, hk, hr⟩ := sn_lo_mem.mp hm
  have e : j = k := by omega
  subst e
  unfold sn_s1 at hk
  by_cases e : i = j
  · subst e
    rw [List.getElem?_set_self'] at hk
    cases hq : (sn_kill L i)[i]? with
    | none => rw [hq] at hk; cases hk
    | some z => rw [hq] at hk; cases hk; exact List.mem_cons_self
  · rw [List.getElem?_set_ne e] at hk
    obtain ⟨h1, h2⟩ := sn_kill_get hk hr
    refine List.mem_cons_of_mem _ (List.mem_filter.mpr ⟨List.mem_map.mpr ⟨(j, w), sn_lo_mem.mpr ⟨j, by omega, h1, hr⟩, rfl⟩, ?_⟩)
    have e2 : j ≠ i := fun q => e q.symm
    by_cases e3 : j + 1 = i
    · have e4 : w.category ≠ 2 := fun q => h2 ⟨e3, q⟩
      simp [e2, e3, sn_tr_cat, e4]
    · simp [e2, e3]
theorem sn_L2 {γ : sn_G} {ls : Array Slot} {nL : Nat} {L : List Value} {i : Nat} {v : Value} (h : lv_has ls nL ((i, sn_tr γ v) :: (sn_lov γ L).filter (fun q => !(q.1 == i) && (!(q.1 == i + 1) && !(q.1 + 1 == i && q.2.category == 2))))) : lv_has ls nL (sn_lov γ (sn_s2 L i v)) := by
  refine ⟨h.1, h.2.1, fun q hq => h.2.2 q ?_⟩
  obtain ⟨⟨j, w⟩, hm, rfl⟩ := List.mem_map.mp hq
  obtain ⟨k, e, hk, hr⟩ := sn_lo_mem.mp hm
  have e : j = k := by omega
  subst e
  unfold sn_s2 at hk
  obtain ⟨hk, e9⟩ := sn_set_dead hk hr
  by_cases e : i = j
  · subst e
    rw [List.getElem?_set_self'] at hk
    cases hq : (sn_kill L i)[i]? with
    | none => rw [hq] at hk; cases hk
    | some z => rw [hq] at hk; cases hk; exact List.mem_cons_self
  · rw [List.getElem?_set_ne e] at hk
    obtain ⟨h1, h2⟩ := sn_kill_get hk hr
    refine List.mem_cons_of_mem _ (List.mem_filter.mpr ⟨List.mem_map.mpr ⟨(j, w), sn_lo_mem.mpr ⟨j, by omega, h1, hr⟩, rfl⟩, ?_⟩)
    have e2 : j ≠ i := fun q => e q.symm
    by_cases e3 : j + 1 = i
    · have e4 : w.category ≠ 2 := fun q => h2 ⟨e3, q⟩
      simp [e2, e3, e9, sn_tr_cat, e4]
    · simp [e2, e3, e9]
theorem sn_gl_mem {γ : sn_G} {lv : List Value} {k : Nat} {v : Value} (hg : sn_gl lv k = some v) (hr : sn_real v = true) : (k, sn_tr γ v) ∈ sn_lov γ lv := by
  rw [sn_gl_eq] at hg
  exact List.mem_map.mpr ⟨(k, v), sn_lo_mem.mpr ⟨k, by omega, hg, hr⟩, rfl⟩
theorem sn_lv {γ : sn_G} {lv : List Value} {ls : Array Slot} {nL k : Nat} {v : Value} (hl : lv_has ls nL (sn_lov γ lv)) (hg : sn_gl lv k = some v) (hr : sn_real v = true) : ls[k]? = some (.val (sn_tr γ v)) :=
  hl.2.2 (k, sn_tr γ v) (sn_gl_mem hg hr)
-- THE PURE STEP
def sn_tg (t : sn_Tb) (pc : Nat) : Option (Instr × Nat × Nat × Nat) := match t with
  | [] => none
  | q :: r => bif Nat.beq q.1 pc then some q.2 else sn_tg r pc
def sn_sw (pc : Nat) (dflt lo hi : Int) (offs : Array Int) (x : Int32) : Nat := if x.toInt < lo ∨ hi < x.toInt then ((pc : Int) + dflt).toNat else ((pc : Int) + (offs[(x.toInt - lo).toNat]?.getD 0)).toNat
def sn_swok (pc : Nat) (dflt lo hi : Int) (offs : Array Int) : Bool := decide (0 ≤ (pc : Int) + dflt) && offs.toList.all (fun o => decide (0 ≤ (pc : Int) + o)) && decide (hi - lo < offs.size)
abbrev sn_St : Type := Prop × Nat × List Value × List Value
theorem sn_tg_mem {t : sn_Tb} {pc : Nat} {i : Instr} {n nx tg : Nat} (h : sn_tg t pc = some (i, n, nx, tg)) : (pc, i, n, nx, tg) ∈ t := by
  induction t with
  | nil => cases h
  | cons q r ih =>
    unfold sn_tg at h
    cases hb : Nat.beq q.1 pc with
    | true =>
      rw [hb] at h
      have e := Nat.eq_of_beq_eq_true hb
      obtain ⟨a, b2⟩ := q
      cases h
      cases e
      exact List.mem_cons_self
    | false =>
      rw [hb] at h
      exact List.mem_cons_of_mem _ (ih h)
theorem sn_jok_nx {pc : Nat} {i : Instr} {n nx tg : Nat} (h : sn_jok (pc, i, n, nx, tg) = true) : nx = pc + n := by
  simp only [sn_jok, Bool.and_eq_true, beq_iff_eq] at h
  exact h.1.1.2
theorem sn_jok_con {pc : Nat} {i : Instr} {n nx tg : Nat} {c : Int} (h : sn_jok (pc, i, n, nx, tg) = true) (hc : sn_con i = some c) : c.natAbs = tg := by
  simp only [sn_jok, Bool.and_eq_true, hc, beq_iff_eq] at h
  exact h.1.1.1
theorem sn_jok_len {pc : Nat} {i : Instr} {n nx tg : Nat} (h : sn_jok (pc, i, n, nx, tg) = true) (h0 : sn_len i ≠ 0) : n = sn_len i := by
  simp only [sn_jok, Bool.and_eq_true, beq_iff_eq, Bool.or_eq_true] at h
  rcases h.1.2 with q | q
  · exact absurd q h0
  · exact q.symm
theorem sn_jok_tg {pc : Nat} {i : Instr} {n nx tg : Nat} {o : Int} (h : sn_jok (pc, i, n, nx, tg) = true) (ho : sn_off i = some o) : (pc : Int) + o = (tg : Int) := by
  simp only [sn_jok, Bool.and_eq_true, ho, beq_iff_eq] at h
  exact h.2
