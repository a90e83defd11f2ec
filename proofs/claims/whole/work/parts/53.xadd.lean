/-! A BOOK MORE -/
theorem ap_get {h L : sn_H} (i : Nat) : (h ++ L)[h.length + i]? = L[i]? := by rw [List.getElem?_append_right (by omega), show h.length + i - h.length = i by omega]
theorem ap_old {h L : sn_H} {i : Nat} {z : va_E} (e : h[i]? = some z) : (h ++ L)[i]? = some z := by rw [List.getElem?_append_left (cell_lt e)]; exact e
theorem RU.old {h L : sn_H} {w : sn_Lw} {l ru : Nat} (q : RU h w l ru) : RU (h ++ L) w l ru := by
  obtain ⟨fr, q1, q2⟩ := q
  refine ⟨fr, ap_old q1, fun j hj => ?_⟩
  obtain ⟨a, e1, e2⟩ := q2 j hj
  exact ⟨a, e1, ap_old e2⟩
theorem nbc_bln (k m l ru n : Nat) (hk : k < 6) : (nbc k m l ru n).length = bln (nbk k m l) := by
  have hk4 : k = 0 ∨ k = 1 ∨ k = 2 ∨ k = 3 ∨ k = 4 ∨ k = 5 := by omega
  rcases hk4 with rfl | rfl | rfl | rfl | rfl | rfl <;> rfl
theorem BR.new {h : sn_H} {w : sn_Lw} {k m l ru : Nat} (hk : k < 6) (hr : RU h w l ru) : BR (h ++ nbc k m l ru h.length) w (nbk k m l) h.length ru := by
  have hk4 : k = 0 ∨ k = 1 ∨ k = 2 ∨ k = 3 ∨ k = 4 ∨ k = 5 := by omega
  rcases hk4 with rfl | rfl | rfl | rfl | rfl | rfl
  · exact ⟨⟨ap_get 0, hr.old⟩, ⟨_, ap_get 1, fun _ _ => rfl⟩, ⟨_, ap_get 2, fun _ _ => rfl⟩, fun e => absurd e (by decide : ¬ (0 = 3)), fun e => absurd e (by decide : ¬ (0 = 4)), fun e => absurd e (by decide : ¬ (0 = 5)), fun _ => rfl⟩
  · exact ⟨⟨ap_get 0, hr.old⟩, ⟨_, ap_get 1, fun _ _ => rfl⟩, ⟨_, ap_get 2, fun _ _ => rfl⟩, fun e => absurd e (by decide : ¬ (1 = 3)), fun e => absurd e (by decide : ¬ (1 = 4)), fun e => absurd e (by decide : ¬ (1 = 5)), fun _ => rfl⟩
  · exact ⟨⟨ap_get 0, hr.old⟩, ⟨_, ap_get 1, fun _ _ => rfl⟩, ⟨_, ap_get 2, fun _ _ => rfl⟩, fun e => absurd e (by decide : ¬ (2 = 3)), fun e => absurd e (by decide : ¬ (2 = 4)), fun e => absurd e (by decide : ¬ (2 = 5)), fun _ => rfl⟩
  · exact ⟨⟨ap_get 0, hr.old⟩, ⟨_, ap_get 1, fun _ _ => rfl⟩, ⟨_, ap_get 2, fun _ _ => rfl⟩, fun _ => ⟨⟨_, ap_get 3⟩, ⟨_, ap_get 4⟩, ⟨_, ap_get 5⟩, ⟨_, ap_get 6⟩⟩, fun e => absurd e (by decide : ¬ (3 = 4)), fun e => absurd e (by decide : ¬ (3 = 5)), fun _ => rfl⟩
  · exact ⟨⟨ap_get 0, hr.old⟩, ⟨_, ap_get 1, fun _ _ => rfl⟩, ⟨_, ap_get 2, fun _ _ => rfl⟩, fun e => absurd e (by decide : ¬ (4 = 3)), fun _ => ⟨⟨_, ap_get 3⟩, ⟨_, ap_get 4⟩, ⟨_, ap_get 5⟩⟩, fun e => absurd e (by decide : ¬ (4 = 5)), fun _ => rfl⟩
  · exact ⟨⟨ap_get 0, hr.old⟩, ⟨_, ap_get 1, fun _ _ => rfl⟩, ⟨_, ap_get 2, fun _ _ => rfl⟩, fun e => absurd e (by decide : ¬ (5 = 3)), fun e => absurd e (by decide : ¬ (5 = 4)), fun _ => ⟨⟨_, ap_get 3, fun i hi => absurd hi (Nat.not_lt_zero i)⟩, ⟨_, ap_get 4⟩⟩, fun _ => rfl⟩
