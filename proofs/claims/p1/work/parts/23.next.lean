theorem o_next : P2 (fX11_next sm_n0) fX12_next := sm_q2_ok (by decide +kernel)
