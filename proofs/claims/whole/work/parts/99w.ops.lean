section OKXS
variable {hc hm : HS}
theorem okx {lost th : Prop} {oc om : Option (Int32 × HS)} (O : OKT lost oc om hc) (T : lost → th) : OKX oc om th hc := by
  by_cases c : lost
  · obtain ⟨r, hm', a, b, d⟩ := O.2 c
    exact Or.inr ⟨r, hm', T c, a, b, d⟩
  · obtain ⟨r, hc', hm', a, b, d, f⟩ := O.1 c
    exact Or.inl ⟨r, hc', hm', a, b, d, f⟩
theorem x_heavy (H : RR hc hm) (p1 : Int32) : OKX (fX11_heavy p1 hc) (fX12_heavy p1 hm) (fX11_heavy_x7 p1 hc = some hc) hc := okx (op_heavy H p1) (fun c => by
  unfold fX11_heavy_x7
  rw [f_isDepthC, bd_s, if10s, if_neg c])
theorem x_moment (H : RR hc hm) (p1 : Int32) : OKX (fX11_moment p1 hc) (fX12_moment p1 hm) (fX11_moment_x9 p1 hc = some hc) hc := okx (op_moment H p1) (fun c => by
  unfold fX11_moment_x9
  rw [f_between, bd_s, if10s, if_neg c])
theorem x_line (H : RR hc hm) (p1 : Int32) : OKX (fX11_line p1 hc) (fX12_line p1 hm) (fX11_line_x17 p1 hc = some hc) hc := okx (op_line H p1) (fun c => by
  unfold fX11_line_x17
  rw [f_between, bd_s, if10s, if_neg c])
theorem x_row (H : RR hc hm) (p1 : Int32) : OKX (fX11_row p1 hc) (fX12_row p1 hm) (fX11_row_x17 p1 hc = some hc) hc := okx (op_row H p1) (fun c => by
  unfold fX11_row_x17
  rw [H.1.2.2.2.1.1, f_between, bd_s, if10s, if_neg c])
theorem x_tells (H : RR hc hm) (p1 p2 p3 p4 : Int32) : OKX (fX11_tells p1 p2 p3 p4 hc) (fX12_tells p1 p2 p3 p4 hm) (fX11_tells_x57 p1 p2 p3 p4 hc = some hc) hc := okx (op_tells H p1 p2 p3 p4) (fun c => by
  unfold fX11_tells_x57 fX11_tells_x57_49 fX11_tells_x57_50
  simp only [f_between, f_isDepthC, bd_s, if10s, if_true]
  by_cases c1 : 0 ≤ p1 ∧ p1 ≤ gI hc 8 3 - 1
  · rw [if_pos c1]
    by_cases c2 : 0 ≤ p2 ∧ p2 ≤ 200
    · rw [if_pos c2]
      by_cases c3 : 0 ≤ p3 ∧ p3 ≤ 600
      · rw [if_pos c3]
        by_cases c4 : 0 ≤ p4 ∧ p4 ≤ 2
        · exact absurd ⟨c1, c2, c3, c4⟩ c
        · rw [if_neg c4]
      · rw [if_neg c3]
    · rw [if_neg c2]
  · rw [if_neg c1])
theorem x_of (H : RR hc hm) (p1 p2 : Int32) : OKX (fX11_of p1 p2 hc) (fX12_of p1 p2 hm) (fX11_of_x11 p1 p2 hc = some hc ∨ fX11_of_x106 p1 p2 hc = some hc) hc := okx (op_of H p1 p2) (fun c => by
  have n15 := RR_15 H
  have e := RR_eC H
  by_cases c1 : ∃ i, i < nLd hm ∧ p1 = nI i
  · obtain ⟨i, hi, rfl⟩ := c1
    refine Or.inr ?_
    have c2 : ¬ (0 ≤ p2 ∧ p2 ≤ 4) := fun z => c ⟨⟨i, hi, rfl⟩, z⟩
    have ne : ∀ v : Int32, 0 ≤ v ∧ v ≤ 4 → ¬ p2 = v := fun v hv z => c2 (by rw [z]; exact hv)
    unfold fX11_of_x106
    rw [th_in n15 e hi, bd_s, if_neg (by decide), if_neg (ne 0 (by decide)), if_neg (ne 1 (by decide)), if_neg (ne 2 (by decide)), if_neg (ne 3 (by decide)), if_neg (ne 4 (by decide))]
  · refine Or.inl ?_
    unfold fX11_of_x11 fX4_there
    by_cases z1 : p1 < 0
    · rw [if_pos z1, bd_s, if_pos rfl]
    · rw [if_neg z1, e]
      by_cases z2 : nI (nLd hm) ≤ p1
      · rw [if_pos z2, bd_s, if_pos rfl]
      · obtain ⟨j, j1, rfl⟩ := nI_of z1
        exfalso
        refine c1 ⟨j, ?_, rfl⟩
        by_cases z : j < nLd hm
        · exact z
        · exact absurd (nI_le (by omega) j1) z2)
end OKXS
