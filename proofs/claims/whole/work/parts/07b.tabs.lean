theorem in_C : ∀ ci, ci < 12 → ∀ r : vw_C, vwCl[ci]? = some r → ∀ w ∈ u_ws r.1 r.2.1 r.2.2, w ∈ lwg := by
  have h : ∀ r ∈ vwCl, (u_ws r.1 r.2.1 r.2.2).all (fun w => lwg.contains w) = true := by decide +kernel
  intro ci hc r hr w hw
  have h1 := List.all_eq_true.mp (h r (List.mem_of_getElem? hr)) w hw
  exact List.contains_iff_mem.mp h1
theorem ty_C : ∀ ci, ci < 12 → ∀ r : vw_C, vwCl[ci]? = some r → ∀ k, k < r.2.2 → parseFieldDescriptor (r.2.1 k).2.2.1 = some (tyC ci k) := by
  intro ci hc r hr
  match ci, hr with
  | 0, hr => cases hr; exact tyX0_ok
  | 1, hr => cases hr; exact tyX1_ok
  | 2, hr => cases hr; exact tyX2_ok
  | 3, hr => cases hr; exact tyX3_ok
  | 4, hr => cases hr; exact tyX4_ok
  | 5, hr => cases hr; exact tyX5_ok
  | 6, hr => cases hr; exact tyX6_ok
  | 7, hr => cases hr; exact tyX7_ok
  | 8, hr => cases hr; exact tyX8_ok
  | 9, hr => cases hr; exact tyX9_ok
  | 10, hr => cases hr; exact tyX11_ok
  | 11, hr => cases hr; exact tyX12_ok
theorem nm_C : ∀ ci, ci < 12 → ∀ r : vw_C, vwCl[ci]? = some r → ∀ a, a < r.2.2 → ∀ b, b < r.2.2 → a ≠ b → (r.2.1 a).2.1 ≠ (r.2.1 b).2.1 := by
  intro ci hc r hr
  match ci, hr with
  | 0, hr => cases hr; exact nmX0
  | 1, hr => cases hr; exact nmX1
  | 2, hr => cases hr; exact nmX2
  | 3, hr => cases hr; exact nmX3
  | 4, hr => cases hr; exact nmX4
  | 5, hr => cases hr; exact nmX5
  | 6, hr => cases hr; exact nmX6
  | 7, hr => cases hr; exact nmX7
  | 8, hr => cases hr; exact nmX8
  | 9, hr => cases hr; exact nmX9
  | 10, hr => cases hr; exact nmX11
  | 11, hr => cases hr; exact nmX12
