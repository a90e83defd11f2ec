/-! LINKS AT A BOOK OF ANY KIND -/
def sn_bk (ci : Nat) : Prop := ci = 3 ∨ ci = 4 ∨ ci = 5 ∨ ci = 6 ∨ ci = 7 ∨ ci = 8
theorem sn_bk_of {k : Nat} (h : k ≤ 5) : sn_bk (k + 3) := by unfold sn_bk; omega
theorem sn_bk_lt {ci : Nat} (h : sn_bk ci) : ci < 10 := by unfold sn_bk at h; omega
theorem lgb {ci : Nat} (h : sn_bk ci) : sn_asg 4 ci := by
  rcases h with rfl | rfl | rfl | rfl | rfl | rfl
  · exact lg_3
  · exact lg_4
  · exact lg_5
  · exact lg_6
  · exact lg_7
  · exact lg_8
def sn_pl (ci : Nat) : Prop := ci = 3 ∨ ci = 4 ∨ ci = 5 ∨ ci = 7 ∨ ci = 8
def sn_pt (ci : Nat) : Prop := ci = 5 ∨ ci = 7
theorem sn_pl_bk {ci : Nat} (h : sn_pl ci) : sn_bk ci := by unfold sn_pl at h; unfold sn_bk; omega
theorem sn_pt_pl {ci : Nat} (h : sn_pt ci) : sn_pl ci := by unfold sn_pt at h; unfold sn_pl; omega
theorem lfb_0_110 {ci : Nat} (h : sn_bk ci) : sn_LF 0 110 ci 0 := by
  rcases h with rfl | rfl | rfl | rfl | rfl | rfl
  · exact lf_0_110_3
  · exact lf_0_110_4
  · exact lf_0_110_5
  · exact lf_0_110_6
  · exact lf_0_110_7
  · exact lf_0_110_8
theorem lfb_0_113 {ci : Nat} (h : sn_bk ci) : sn_LF 0 113 ci 1 := by
  rcases h with rfl | rfl | rfl | rfl | rfl | rfl
  · exact lf_0_113_3
  · exact lf_0_113_4
  · exact lf_0_113_5
  · exact lf_0_113_6
  · exact lf_0_113_7
  · exact lf_0_113_8
theorem lfb_0_116 {ci : Nat} (h : sn_bk ci) : sn_LF 0 116 ci 2 := by
  rcases h with rfl | rfl | rfl | rfl | rfl | rfl
  · exact lf_0_116_3
  · exact lf_0_116_4
  · exact lf_0_116_5
  · exact lf_0_116_6
  · exact lf_0_116_7
  · exact lf_0_116_8
def vt_filledPlaces (ci : Nat) : sn_E := match ci with
  | 3 => me_B_filledPlaces
  | 4 => me_B_filledPlaces
  | 5 => me_B_filledPlaces
  | 6 => me_B_filledPlaces
  | 7 => me_B_filledPlaces
  | _ => me_B_filledPlaces
theorem mkb_filledPlaces {ci : Nat} (h : sn_bk ci) : sn_MK (vt_filledPlaces ci).2.2 0 := by
  rcases h with rfl | rfl | rfl | rfl | rfl | rfl
  · exact mk_B_filledPlaces
  · exact mk_B_filledPlaces
  · exact mk_B_filledPlaces
  · exact mk_B_filledPlaces
  · exact mk_B_filledPlaces
  · exact mk_B_filledPlaces
theorem lvb_0_119 {ci : Nat} (h : sn_bk ci) : sn_LV 0 119 ci (vt_filledPlaces ci).2.2 0 := by
  rcases h with rfl | rfl | rfl | rfl | rfl | rfl
  · exact lv_0_119_3
  · exact lv_0_119_4
  · exact lv_0_119_5
  · exact lv_0_119_6
  · exact lv_0_119_7
  · exact lv_0_119_8
def vt_keysReally (ci : Nat) : sn_E := match ci with
  | 3 => me_B_keysReally
  | 4 => me_B_keysReally
  | 5 => me_B_keysReally
  | 6 => me_B_keysReally
  | 7 => me_B_keysReally
  | _ => me_B_keysReally
theorem mkb_keysReally {ci : Nat} (h : sn_bk ci) : sn_MK (vt_keysReally ci).2.2 0 := by
  rcases h with rfl | rfl | rfl | rfl | rfl | rfl
  · exact mk_B_keysReally
  · exact mk_B_keysReally
  · exact mk_B_keysReally
  · exact mk_B_keysReally
  · exact mk_B_keysReally
  · exact mk_B_keysReally
theorem lvb_0_129 {ci : Nat} (h : sn_bk ci) : sn_LV 0 129 ci (vt_keysReally ci).2.2 0 := by
  rcases h with rfl | rfl | rfl | rfl | rfl | rfl
  · exact lv_0_129_3
  · exact lv_0_129_4
  · exact lv_0_129_5
  · exact lv_0_129_6
  · exact lv_0_129_7
  · exact lv_0_129_8
def vt_rowCount (ci : Nat) : sn_E := match ci with
  | 3 => me_B_rowCount
  | 4 => me_B_rowCount
  | 5 => me_B_rowCount
  | 6 => me_B_rowCount
  | 7 => me_B_rowCount
  | _ => me_L_rowCount
theorem mkb_rowCount {ci : Nat} (h : sn_bk ci) : sn_MK (vt_rowCount ci).2.2 0 := by
  rcases h with rfl | rfl | rfl | rfl | rfl | rfl
  · exact mk_B_rowCount
  · exact mk_B_rowCount
  · exact mk_B_rowCount
  · exact mk_B_rowCount
  · exact mk_B_rowCount
  · exact mk_L_rowCount
theorem lvb_0_132 {ci : Nat} (h : sn_bk ci) : sn_LV 0 132 ci (vt_rowCount ci).2.2 0 := by
  rcases h with rfl | rfl | rfl | rfl | rfl | rfl
  · exact lv_0_132_3
  · exact lv_0_132_4
  · exact lv_0_132_5
  · exact lv_0_132_6
  · exact lv_0_132_7
  · exact lv_0_132_8
theorem lfb_0_136 {ci : Nat} (h : sn_bk ci) : sn_LF 0 136 ci 4 := by
  rcases h with rfl | rfl | rfl | rfl | rfl | rfl
  · exact lf_0_136_3
  · exact lf_0_136_4
  · exact lf_0_136_5
  · exact lf_0_136_6
  · exact lf_0_136_7
  · exact lf_0_136_8
def vt_rowBits (ci : Nat) : sn_E := match ci with
  | 3 => me_B_rowBits
  | 4 => me_B_rowBits
  | 5 => me_B_rowBits
  | 6 => me_B_rowBits
  | 7 => me_B_rowBits
  | _ => me_L_rowBits
theorem mkb_rowBits {ci : Nat} (h : sn_bk ci) : sn_MK (vt_rowBits ci).2.2 1 := by
  rcases h with rfl | rfl | rfl | rfl | rfl | rfl
  · exact mk_B_rowBits
  · exact mk_B_rowBits
  · exact mk_B_rowBits
  · exact mk_B_rowBits
  · exact mk_B_rowBits
  · exact mk_L_rowBits
theorem lvb_0_142 {ci : Nat} (h : sn_bk ci) : sn_LV 0 142 ci (vt_rowBits ci).2.2 1 := by
  rcases h with rfl | rfl | rfl | rfl | rfl | rfl
  · exact lv_0_142_3
  · exact lv_0_142_4
  · exact lv_0_142_5
  · exact lv_0_142_6
  · exact lv_0_142_7
  · exact lv_0_142_8
def vt_placeBits (ci : Nat) : sn_E := match ci with
  | 3 => me_P_placeBits
  | 4 => me_P_placeBits
  | 5 => me_A_placeBits
  | 6 => me_U_placeBits
  | 7 => me_A_placeBits
  | _ => me_P_placeBits
theorem mkb_placeBits {ci : Nat} (h : sn_bk ci) : sn_MK (vt_placeBits ci).2.2 1 := by
  rcases h with rfl | rfl | rfl | rfl | rfl | rfl
  · exact mk_P_placeBits
  · exact mk_P_placeBits
  · exact mk_A_placeBits
  · exact mk_U_placeBits
  · exact mk_A_placeBits
  · exact mk_P_placeBits
theorem lvb_0_146 {ci : Nat} (h : sn_bk ci) : sn_LV 0 146 ci (vt_placeBits ci).2.2 1 := by
  rcases h with rfl | rfl | rfl | rfl | rfl | rfl
  · exact lv_0_146_3
  · exact lv_0_146_4
  · exact lv_0_146_5
  · exact lv_0_146_6
  · exact lv_0_146_7
  · exact lv_0_146_8
def vt_letsPut (ci : Nat) : sn_E := match ci with
  | 3 => me_P_letsPut
  | 4 => me_P_letsPut
  | 5 => me_P_letsPut
  | 6 => me_U_letsPut
  | 7 => me_F_letsPut
  | _ => me_L_letsPut
theorem mkb_letsPut {ci : Nat} (h : sn_bk ci) : sn_MK (vt_letsPut ci).2.2 0 := by
  rcases h with rfl | rfl | rfl | rfl | rfl | rfl
  · exact mk_P_letsPut
  · exact mk_P_letsPut
  · exact mk_P_letsPut
  · exact mk_U_letsPut
  · exact mk_F_letsPut
  · exact mk_L_letsPut
theorem lvb_0_149 {ci : Nat} (h : sn_bk ci) : sn_LV 0 149 ci (vt_letsPut ci).2.2 0 := by
  rcases h with rfl | rfl | rfl | rfl | rfl | rfl
  · exact lv_0_149_3
  · exact lv_0_149_4
  · exact lv_0_149_5
  · exact lv_0_149_6
  · exact lv_0_149_7
  · exact lv_0_149_8
theorem lfb_0_153 {ci : Nat} (h : sn_bk ci) : sn_LF 0 153 ci 5 := by
  rcases h with rfl | rfl | rfl | rfl | rfl | rfl
  · exact lf_0_153_3
  · exact lf_0_153_4
  · exact lf_0_153_5
  · exact lf_0_153_6
  · exact lf_0_153_7
  · exact lf_0_153_8
def vt_holds (ci : Nat) : sn_E := match ci with
  | 3 => me_P_holds
  | 4 => me_P_holds
  | 5 => me_P_holds
  | 6 => me_U_holds
  | 7 => me_F_holds
  | _ => me_L_holds
theorem mkb_holds {ci : Nat} (h : sn_bk ci) : sn_MK (vt_holds ci).2.2 1 := by
  rcases h with rfl | rfl | rfl | rfl | rfl | rfl
  · exact mk_P_holds
  · exact mk_P_holds
  · exact mk_P_holds
  · exact mk_U_holds
  · exact mk_F_holds
  · exact mk_L_holds
theorem lvb_0_156 {ci : Nat} (h : sn_bk ci) : sn_LV 0 156 ci (vt_holds ci).2.2 1 := by
  rcases h with rfl | rfl | rfl | rfl | rfl | rfl
  · exact lv_0_156_3
  · exact lv_0_156_4
  · exact lv_0_156_5
  · exact lv_0_156_6
  · exact lv_0_156_7
  · exact lv_0_156_8
def vt_insert (ci : Nat) : sn_E := match ci with
  | 3 => me_P_insert
  | 4 => me_C_insert
  | 5 => me_P_insert
  | 6 => me_U_insert
  | 7 => me_P_insert
  | _ => me_P_insert
theorem mkb_insert {ci : Nat} (h : sn_bk ci) : sn_MK (vt_insert ci).2.2 1 := by
  rcases h with rfl | rfl | rfl | rfl | rfl | rfl
  · exact mk_P_insert
  · exact mk_C_insert
  · exact mk_P_insert
  · exact mk_U_insert
  · exact mk_P_insert
  · exact mk_P_insert
theorem lvb_0_159 {ci : Nat} (h : sn_bk ci) : sn_LV 0 159 ci (vt_insert ci).2.2 1 := by
  rcases h with rfl | rfl | rfl | rfl | rfl | rfl
  · exact lv_0_159_3
  · exact lv_0_159_4
  · exact lv_0_159_5
  · exact lv_0_159_6
  · exact lv_0_159_7
  · exact lv_0_159_8
def vt_letsTake (ci : Nat) : sn_E := match ci with
  | 3 => me_B_letsTake
  | 4 => me_C_letsTake
  | 5 => me_B_letsTake
  | 6 => me_U_letsTake
  | 7 => me_B_letsTake
  | _ => me_B_letsTake
theorem mkb_letsTake {ci : Nat} (h : sn_bk ci) : sn_MK (vt_letsTake ci).2.2 0 := by
  rcases h with rfl | rfl | rfl | rfl | rfl | rfl
  · exact mk_B_letsTake
  · exact mk_C_letsTake
  · exact mk_B_letsTake
  · exact mk_U_letsTake
  · exact mk_B_letsTake
  · exact mk_B_letsTake
theorem lvb_0_162 {ci : Nat} (h : sn_bk ci) : sn_LV 0 162 ci (vt_letsTake ci).2.2 0 := by
  rcases h with rfl | rfl | rfl | rfl | rfl | rfl
  · exact lv_0_162_3
  · exact lv_0_162_4
  · exact lv_0_162_5
  · exact lv_0_162_6
  · exact lv_0_162_7
  · exact lv_0_162_8
def vt_remove (ci : Nat) : sn_E := match ci with
  | 3 => me_B_remove
  | 4 => me_C_remove
  | 5 => me_B_remove
  | 6 => me_U_remove
  | 7 => me_B_remove
  | _ => me_B_remove
theorem mkb_remove {ci : Nat} (h : sn_bk ci) : sn_MK (vt_remove ci).2.2 1 := by
  rcases h with rfl | rfl | rfl | rfl | rfl | rfl
  · exact mk_B_remove
  · exact mk_C_remove
  · exact mk_B_remove
  · exact mk_U_remove
  · exact mk_B_remove
  · exact mk_B_remove
theorem lvb_0_165 {ci : Nat} (h : sn_bk ci) : sn_LV 0 165 ci (vt_remove ci).2.2 1 := by
  rcases h with rfl | rfl | rfl | rfl | rfl | rfl
  · exact lv_0_165_3
  · exact lv_0_165_4
  · exact lv_0_165_5
  · exact lv_0_165_6
  · exact lv_0_165_7
  · exact lv_0_165_8
def vt_rebuild (ci : Nat) : sn_E := match ci with
  | 3 => me_B_rebuild
  | 4 => me_B_rebuild
  | 5 => me_B_rebuild
  | 6 => me_B_rebuild
  | 7 => me_F_rebuild
  | _ => me_L_rebuild
theorem mkb_rebuild {ci : Nat} (h : sn_bk ci) : sn_MK (vt_rebuild ci).2.2 2 := by
  rcases h with rfl | rfl | rfl | rfl | rfl | rfl
  · exact mk_B_rebuild
  · exact mk_B_rebuild
  · exact mk_B_rebuild
  · exact mk_B_rebuild
  · exact mk_F_rebuild
  · exact mk_L_rebuild
theorem lvb_0_169 {ci : Nat} (h : sn_bk ci) : sn_LV 0 169 ci (vt_rebuild ci).2.2 2 := by
  rcases h with rfl | rfl | rfl | rfl | rfl | rfl
  · exact lv_0_169_3
  · exact lv_0_169_4
  · exact lv_0_169_5
  · exact lv_0_169_6
  · exact lv_0_169_7
  · exact lv_0_169_8
def vt_keysHeld (ci : Nat) : sn_E := match ci with
  | 3 => me_B_keysHeld
  | 4 => me_B_keysHeld
  | 5 => me_B_keysHeld
  | 6 => me_B_keysHeld
  | 7 => me_B_keysHeld
  | _ => me_B_keysHeld
theorem mkb_keysHeld {ci : Nat} (h : sn_bk ci) : sn_MK (vt_keysHeld ci).2.2 0 := by
  rcases h with rfl | rfl | rfl | rfl | rfl | rfl
  · exact mk_B_keysHeld
  · exact mk_B_keysHeld
  · exact mk_B_keysHeld
  · exact mk_B_keysHeld
  · exact mk_B_keysHeld
  · exact mk_B_keysHeld
theorem lvb_0_173 {ci : Nat} (h : sn_bk ci) : sn_LV 0 173 ci (vt_keysHeld ci).2.2 0 := by
  rcases h with rfl | rfl | rfl | rfl | rfl | rfl
  · exact lv_0_173_3
  · exact lv_0_173_4
  · exact lv_0_173_5
  · exact lv_0_173_6
  · exact lv_0_173_7
  · exact lv_0_173_8
theorem lfb_0_184 {ci : Nat} (h : sn_bk ci) : sn_LF 0 184 ci 3 := by
  rcases h with rfl | rfl | rfl | rfl | rfl | rfl
  · exact lf_0_184_3
  · exact lf_0_184_4
  · exact lf_0_184_5
  · exact lf_0_184_6
  · exact lf_0_184_7
  · exact lf_0_184_8
theorem lfb_10_15 {ci : Nat} (h : sn_bk ci) : sn_LF 10 15 ci 1 := by
  rcases h with rfl | rfl | rfl | rfl | rfl | rfl
  · exact lf_10_15_3
  · exact lf_10_15_4
  · exact lf_10_15_5
  · exact lf_10_15_6
  · exact lf_10_15_7
  · exact lf_10_15_8
theorem lfb_10_25 {ci : Nat} (h : sn_bk ci) : sn_LF 10 25 ci 4 := by
  rcases h with rfl | rfl | rfl | rfl | rfl | rfl
  · exact lf_10_25_3
  · exact lf_10_25_4
  · exact lf_10_25_5
  · exact lf_10_25_6
  · exact lf_10_25_7
  · exact lf_10_25_8
theorem lfb_10_29 {ci : Nat} (h : sn_bk ci) : sn_LF 10 29 ci 5 := by
  rcases h with rfl | rfl | rfl | rfl | rfl | rfl
  · exact lf_10_29_3
  · exact lf_10_29_4
  · exact lf_10_29_5
  · exact lf_10_29_6
  · exact lf_10_29_7
  · exact lf_10_29_8
theorem lfb_3_7 {ci : Nat} (h : sn_pl ci) : sn_LF 3 7 ci 3 := by
  rcases h with rfl | rfl | rfl | rfl | rfl
  · exact lf_3_7_3
  · exact lf_3_7_4
  · exact lf_3_7_5
  · exact lf_3_7_7
  · exact lf_3_7_8
theorem lfb_3_13 {ci : Nat} (h : sn_pl ci) : sn_LF 3 13 ci 1 := by
  rcases h with rfl | rfl | rfl | rfl | rfl
  · exact lf_3_13_3
  · exact lf_3_13_4
  · exact lf_3_13_5
  · exact lf_3_13_7
  · exact lf_3_13_8
theorem lfb_5_7 {ci : Nat} (h : sn_pt ci) : sn_LF 5 7 ci 3 := by
  rcases h with rfl | rfl
  · exact lf_5_7_5
  · exact lf_5_7_7
theorem lfb_5_13 {ci : Nat} (h : sn_pt ci) : sn_LF 5 13 ci 1 := by
  rcases h with rfl | rfl
  · exact lf_5_13_5
  · exact lf_5_13_7
theorem lvb_3_23 {ci : Nat} (h : sn_pl ci) : sn_LV 3 23 ci (vt_placeBits ci).2.2 1 := by
  rcases h with rfl | rfl | rfl | rfl | rfl
  · exact lv_3_23_3
  · exact lv_3_23_4
  · exact lv_3_23_5
  · exact lv_3_23_7
  · exact lv_3_23_8
theorem lvb_3_27 {ci : Nat} (h : sn_pl ci) : sn_LV 3 27 ci (vt_filledPlaces ci).2.2 0 := by
  rcases h with rfl | rfl | rfl | rfl | rfl
  · exact lv_3_27_3
  · exact lv_3_27_4
  · exact lv_3_27_5
  · exact lv_3_27_7
  · exact lv_3_27_8
theorem lfb_3_39 {ci : Nat} (h : sn_pl ci) : sn_LF 3 39 ci 4 := by
  rcases h with rfl | rfl | rfl | rfl | rfl
  · exact lf_3_39_3
  · exact lf_3_39_4
  · exact lf_3_39_5
  · exact lf_3_39_7
  · exact lf_3_39_8
theorem lvb_10_32 {ci : Nat} (h : sn_bk ci) : sn_LV 10 32 ci (vt_holds ci).2.2 1 := by
  rcases h with rfl | rfl | rfl | rfl | rfl | rfl
  · exact lv_10_32_3
  · exact lv_10_32_4
  · exact lv_10_32_5
  · exact lv_10_32_6
  · exact lv_10_32_7
  · exact lv_10_32_8
