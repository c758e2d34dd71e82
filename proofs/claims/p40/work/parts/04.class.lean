/-! what the tables say of the classes whose objects there are -/
def xclP (ci : Nat) (r : vw_C) : Prop := (∀ k, k < r.2.2 → parseFieldDescriptor (r.2.1 k).2.2.1 = some (xfty ci k)) ∧ (∀ a, a < r.2.2 → ∀ b, b < r.2.2 → a ≠ b → (r.2.1 a).2.1 ≠ (r.2.1 b).2.1) ∧ (∀ k, k < r.2.2 → (r.2.1 k).1 = r.1) ∧ (∀ k, k < r.2.2 → defaultValue (xfty ci k) = vp_V (xdef ci) k) ∧ (∀ w ∈ u_ws r.1 r.2.1 r.2.2, w ∈ lw_g) ∧ (∀ b, (xdef ci).map (xcv b) = xdef ci)
set_option maxRecDepth 100000 in
theorem xlay_0_0 : u_lay xR0 xT0 0 ∈ lw_g := lw_gm 210 rfl rfl
set_option maxRecDepth 100000 in
theorem xlay_0_1 : u_lay xR0 xT0 1 ∈ lw_g := lw_gm 212 rfl rfl
set_option maxRecDepth 100000 in
theorem xlay_0_2 : u_lay xR0 xT0 2 ∈ lw_g := lw_gm 214 rfl rfl
set_option maxRecDepth 100000 in
theorem xlay_0_3 : u_lay xR0 xT0 3 ∈ lw_g := lw_gm 216 rfl rfl
theorem xcl_0 : xclP 0 (xR0, xT0, 4) := by
  refine ⟨by decide +kernel, by decide +kernel, by decide +kernel, by decide +kernel, fun w hw => ?_, fun b => rfl⟩
  obtain ⟨k, hk, rfl⟩ := List.mem_map.mp hw
  have hk := List.mem_range.mp hk
  match k, hk with
  | 0, _ => exact xlay_0_0
  | 1, _ => exact xlay_0_1
  | 2, _ => exact xlay_0_2
  | 3, _ => exact xlay_0_3
  | z + 4, h => exact absurd h (Nat.not_lt.mpr (Nat.le_add_left 4 z))
set_option maxRecDepth 100000 in
theorem xlay_1_0 : u_lay xR1 xT1 0 ∈ lw_g := lw_gm 125 rfl rfl
set_option maxRecDepth 100000 in
theorem xlay_1_1 : u_lay xR1 xT1 1 ∈ lw_g := lw_gm 127 rfl rfl
set_option maxRecDepth 100000 in
theorem xlay_1_2 : u_lay xR1 xT1 2 ∈ lw_g := lw_gm 129 rfl rfl
theorem xcl_1 : xclP 1 (xR1, xT1, 3) := by
  refine ⟨by decide +kernel, by decide +kernel, by decide +kernel, by decide +kernel, fun w hw => ?_, fun b => rfl⟩
  obtain ⟨k, hk, rfl⟩ := List.mem_map.mp hw
  have hk := List.mem_range.mp hk
  match k, hk with
  | 0, _ => exact xlay_1_0
  | 1, _ => exact xlay_1_1
  | 2, _ => exact xlay_1_2
  | z + 3, h => exact absurd h (Nat.not_lt.mpr (Nat.le_add_left 3 z))
set_option maxRecDepth 100000 in
theorem xlay_2_0 : u_lay xR2 xT2 0 ∈ lw_g := lw_gm 62 rfl rfl
set_option maxRecDepth 100000 in
theorem xlay_2_1 : u_lay xR2 xT2 1 ∈ lw_g := lw_gm 64 rfl rfl
set_option maxRecDepth 100000 in
theorem xlay_2_2 : u_lay xR2 xT2 2 ∈ lw_g := lw_gm 66 rfl rfl
set_option maxRecDepth 100000 in
theorem xlay_2_3 : u_lay xR2 xT2 3 ∈ lw_g := lw_gm 68 rfl rfl
set_option maxRecDepth 100000 in
theorem xlay_2_4 : u_lay xR2 xT2 4 ∈ lw_g := lw_gm 70 rfl rfl
set_option maxRecDepth 100000 in
theorem xlay_2_5 : u_lay xR2 xT2 5 ∈ lw_g := lw_gm 72 rfl rfl
theorem xcl_2 : xclP 2 (xR2, xT2, 6) := by
  refine ⟨by decide +kernel, by decide +kernel, by decide +kernel, by decide +kernel, fun w hw => ?_, fun b => rfl⟩
  obtain ⟨k, hk, rfl⟩ := List.mem_map.mp hw
  have hk := List.mem_range.mp hk
  match k, hk with
  | 0, _ => exact xlay_2_0
  | 1, _ => exact xlay_2_1
  | 2, _ => exact xlay_2_2
  | 3, _ => exact xlay_2_3
  | 4, _ => exact xlay_2_4
  | 5, _ => exact xlay_2_5
  | z + 6, h => exact absurd h (Nat.not_lt.mpr (Nat.le_add_left 6 z))
set_option maxRecDepth 100000 in
theorem xlay_3_0 : u_lay xR3 xT3 0 ∈ lw_g := lw_gm 157 rfl rfl
set_option maxRecDepth 100000 in
theorem xlay_3_1 : u_lay xR3 xT3 1 ∈ lw_g := lw_gm 159 rfl rfl
set_option maxRecDepth 100000 in
theorem xlay_3_2 : u_lay xR3 xT3 2 ∈ lw_g := lw_gm 161 rfl rfl
theorem xcl_3 : xclP 3 (xR3, xT3, 3) := by
  refine ⟨by decide +kernel, by decide +kernel, by decide +kernel, by decide +kernel, fun w hw => ?_, fun b => rfl⟩
  obtain ⟨k, hk, rfl⟩ := List.mem_map.mp hw
  have hk := List.mem_range.mp hk
  match k, hk with
  | 0, _ => exact xlay_3_0
  | 1, _ => exact xlay_3_1
  | 2, _ => exact xlay_3_2
  | z + 3, h => exact absurd h (Nat.not_lt.mpr (Nat.le_add_left 3 z))
set_option maxRecDepth 100000 in
theorem xlay_4_0 : u_lay xR4 xT4 0 ∈ lw_g := lw_gm 187 rfl rfl
set_option maxRecDepth 100000 in
theorem xlay_4_1 : u_lay xR4 xT4 1 ∈ lw_g := lw_gm 189 rfl rfl
set_option maxRecDepth 100000 in
theorem xlay_4_2 : u_lay xR4 xT4 2 ∈ lw_g := lw_gm 191 rfl rfl
set_option maxRecDepth 100000 in
theorem xlay_4_3 : u_lay xR4 xT4 3 ∈ lw_g := lw_gm 193 rfl rfl
set_option maxRecDepth 100000 in
theorem xlay_4_4 : u_lay xR4 xT4 4 ∈ lw_g := lw_gm 195 rfl rfl
set_option maxRecDepth 100000 in
theorem xlay_4_5 : u_lay xR4 xT4 5 ∈ lw_g := lw_gm 197 rfl rfl
theorem xcl_4 : xclP 4 (xR4, xT4, 6) := by
  refine ⟨by decide +kernel, by decide +kernel, by decide +kernel, by decide +kernel, fun w hw => ?_, fun b => rfl⟩
  obtain ⟨k, hk, rfl⟩ := List.mem_map.mp hw
  have hk := List.mem_range.mp hk
  match k, hk with
  | 0, _ => exact xlay_4_0
  | 1, _ => exact xlay_4_1
  | 2, _ => exact xlay_4_2
  | 3, _ => exact xlay_4_3
  | 4, _ => exact xlay_4_4
  | 5, _ => exact xlay_4_5
  | z + 6, h => exact absurd h (Nat.not_lt.mpr (Nat.le_add_left 6 z))
set_option maxRecDepth 100000 in
theorem xlay_5_0 : u_lay xR5 xT5 0 ∈ lw_g := lw_gm 103 rfl rfl
set_option maxRecDepth 100000 in
theorem xlay_5_1 : u_lay xR5 xT5 1 ∈ lw_g := lw_gm 105 rfl rfl
set_option maxRecDepth 100000 in
theorem xlay_5_2 : u_lay xR5 xT5 2 ∈ lw_g := lw_gm 107 rfl rfl
set_option maxRecDepth 100000 in
theorem xlay_5_3 : u_lay xR5 xT5 3 ∈ lw_g := lw_gm 109 rfl rfl
theorem xcl_5 : xclP 5 (xR5, xT5, 4) := by
  refine ⟨by decide +kernel, by decide +kernel, by decide +kernel, by decide +kernel, fun w hw => ?_, fun b => rfl⟩
  obtain ⟨k, hk, rfl⟩ := List.mem_map.mp hw
  have hk := List.mem_range.mp hk
  match k, hk with
  | 0, _ => exact xlay_5_0
  | 1, _ => exact xlay_5_1
  | 2, _ => exact xlay_5_2
  | 3, _ => exact xlay_5_3
  | z + 4, h => exact absurd h (Nat.not_lt.mpr (Nat.le_add_left 4 z))
set_option maxRecDepth 100000 in
theorem xlay_6_0 : u_lay xR6 xT6 0 ∈ lw_g := lw_gm 141 rfl rfl
set_option maxRecDepth 100000 in
theorem xlay_6_1 : u_lay xR6 xT6 1 ∈ lw_g := lw_gm 143 rfl rfl
theorem xcl_6 : xclP 6 (xR6, xT6, 2) := by
  refine ⟨by decide +kernel, by decide +kernel, by decide +kernel, by decide +kernel, fun w hw => ?_, fun b => rfl⟩
  obtain ⟨k, hk, rfl⟩ := List.mem_map.mp hw
  have hk := List.mem_range.mp hk
  match k, hk with
  | 0, _ => exact xlay_6_0
  | 1, _ => exact xlay_6_1
  | z + 2, h => exact absurd h (Nat.not_lt.mpr (Nat.le_add_left 2 z))
set_option maxRecDepth 100000 in
theorem xlay_7_0 : u_lay xR7 xT7 0 ∈ lw_g := lw_gm 171 rfl rfl
theorem xcl_7 : xclP 7 (xR7, xT7, 1) := by
  refine ⟨by decide +kernel, by decide +kernel, by decide +kernel, by decide +kernel, fun w hw => ?_, fun b => rfl⟩
  obtain ⟨k, hk, rfl⟩ := List.mem_map.mp hw
  have hk := List.mem_range.mp hk
  match k, hk with
  | 0, _ => exact xlay_7_0
  | z + 1, h => exact absurd h (Nat.not_lt.mpr (Nat.le_add_left 1 z))
set_option maxRecDepth 100000 in
theorem xlay_8_0 : u_lay xR8 xT8 0 ∈ lw_g := lw_gm 227 rfl rfl
set_option maxRecDepth 100000 in
theorem xlay_8_1 : u_lay xR8 xT8 1 ∈ lw_g := lw_gm 229 rfl rfl
set_option maxRecDepth 100000 in
theorem xlay_8_2 : u_lay xR8 xT8 2 ∈ lw_g := lw_gm 231 rfl rfl
set_option maxRecDepth 100000 in
theorem xlay_8_3 : u_lay xR8 xT8 3 ∈ lw_g := lw_gm 233 rfl rfl
set_option maxRecDepth 100000 in
theorem xlay_8_4 : u_lay xR8 xT8 4 ∈ lw_g := lw_gm 235 rfl rfl
set_option maxRecDepth 100000 in
theorem xlay_8_5 : u_lay xR8 xT8 5 ∈ lw_g := lw_gm 237 rfl rfl
set_option maxRecDepth 100000 in
theorem xlay_8_6 : u_lay xR8 xT8 6 ∈ lw_g := lw_gm 239 rfl rfl
set_option maxRecDepth 100000 in
theorem xlay_8_7 : u_lay xR8 xT8 7 ∈ lw_g := lw_gm 241 rfl rfl
theorem xcl_8 : xclP 8 (xR8, xT8, 8) := by
  refine ⟨by decide +kernel, by decide +kernel, by decide +kernel, by decide +kernel, fun w hw => ?_, fun b => rfl⟩
  obtain ⟨k, hk, rfl⟩ := List.mem_map.mp hw
  have hk := List.mem_range.mp hk
  match k, hk with
  | 0, _ => exact xlay_8_0
  | 1, _ => exact xlay_8_1
  | 2, _ => exact xlay_8_2
  | 3, _ => exact xlay_8_3
  | 4, _ => exact xlay_8_4
  | 5, _ => exact xlay_8_5
  | 6, _ => exact xlay_8_6
  | 7, _ => exact xlay_8_7
  | z + 8, h => exact absurd h (Nat.not_lt.mpr (Nat.le_add_left 8 z))
theorem xcl_ok (ci : Nat) (r : vw_C) (h : xcl[ci]? = some r) : xclP ci r := by
  match ci, h with
  | 0, h => cases h; exact xcl_0
  | 1, h => cases h; exact xcl_1
  | 2, h => cases h; exact xcl_2
  | 3, h => cases h; exact xcl_3
  | 4, h => cases h; exact xcl_4
  | 5, h => cases h; exact xcl_5
  | 6, h => cases h; exact xcl_6
  | 7, h => cases h; exact xcl_7
  | 8, h => cases h; exact xcl_8
  | n + 9, h => cases h
