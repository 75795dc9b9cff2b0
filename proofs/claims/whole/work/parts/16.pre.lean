theorem lwx_of {w : Cond} (i : Nat) (h : lw_tbl[i]? = some w) (hg : okX w = true) : w ∈ lwx := List.mem_filter.mpr ⟨List.mem_of_getElem? h, hg⟩
theorem w_oi : Cond.instanceMethod Lib.objectInit ∈ lwg := lwg_of 126 (by decide +kernel) (by decide +kernel)
theorem w_oc : Cond.code Lib.objectInit ⟨#[0xb1]⟩ 1 none ∈ lwg := lwg_of 127 (by decide +kernel) (by decide +kernel)
