theorem zX12_trail (x1 : Int32) (m : sm_S) (hI : zI m) (hC : zC m) : Sf (fun r => (True) ∧ zI r.2 ∧ Fr wX12_trail m r.2) (fX12_trail x1 m) := by
  sorry
theorem zX12_gates (x1 : Int32) (m : sm_S) (hI : zI m) (hC : zC m) : Sf (fun r => (True) ∧ zI r.2 ∧ Fr wX12_gates m r.2) (fX12_gates x1 m) := by
  sorry
