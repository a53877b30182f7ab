theorem o_lies : P2 (fX11_lies sm_n0) fX12_lies := sm_q2_ok (by decide +kernel)
