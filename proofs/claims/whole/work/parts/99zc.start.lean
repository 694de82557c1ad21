def fsC0 : List Value := [.null, .null, .null, .null, .null, .int 0, .null, .null, .null, .null, .null, .null]
def fsM0 : List Value := [.int 0, .null, .null, .null, .null, .null, .int 0, .int 0, .int 0, .int 0, .int 0, .int 0, .null, .null, .null, .int 0, .int 0, .int 0, .null, .int 0, .null, .int 0, .int 0, .null, .int 0, .null, .null, .int 0, .int 0, .int 0, .int 0, .int 0, .int 0, .null, .null, .null, .null, .int 0, .int 0, .int 0, .null, .null, .null, .null, .null, .int 0, .int 0, .int 0, .int 0, .int 0, .int 0, .null, .null, .int 0, .null, .null, .null, .null, .null, .null, .null, .null, .null, .null, .null, .null, .null, .null, .null]
section LWX
def stL : List Cond := [.classLink RL 8 RX11, .instantiable RX11 12, .initialized RX11, .classLink RL 33 RX12, .instantiable RX12 69, .initialized RX12, .methodLink RL 32 yX11_init, .methodLink RL 35 yX12_init, .instanceMethod yX11_init, .instanceMethod yX12_init, .code yX11_init cX11_init 1 none, .code yX12_init cX12_init 1 none, .arrayClass .long]
set_option maxRecDepth 20000 in
theorem stL_in : ∀ w ∈ stL, w ∈ lw_tbl := by decide +kernel
set_option maxRecDepth 20000 in
theorem stL_gd : ∀ w ∈ stL, goodWord w = true := by decide +kernel
theorem stL_gw {w : Cond} (h : w ∈ stL) : w ∈ GW := List.mem_filter.mpr ⟨stL_in w h, stL_gd w h⟩
theorem yiX11_init : YI yX11_init cX11_init 1 0 := ⟨stL_gw (by decide +kernel), stL_gw (by decide +kernel), stL_gw (by decide +kernel), by decide +kernel, rfl, by decide⟩
theorem yiX12_init : YI yX12_init cX12_init 1 0 := ⟨stL_gw (by decide +kernel), stL_gw (by decide +kernel), stL_gw (by decide +kernel), by decide +kernel, rfl, by decide⟩
theorem pmC_lt : ∀ k, k < skC.length → pmC.getD k 0 < csFC.length := by decide +kernel
theorem pmM_lt : ∀ k, k < skM.length → pmM.getD k 0 < csFM.length := by decide +kernel
theorem kcC : Cg yX11_init cX11_init 1 2 67 655 [.ref 0] [(0, 11, fsC0, f0)] csFC := kc16
theorem kcM : Cg yX12_init cX12_init 1 0 38 972 [.ref 0] [(0, 12, fsM0, f0)] csFM := kc17
theorem fsC_ok : ∀ j, j < 12 → defaultValue (tyX11 j) = vp_V fsC0 j := by decide +kernel
theorem fsM_ok : ∀ j, j < 69 → defaultValue (tyX12 j) = vp_V fsM0 j := by decide +kernel
end LWX
