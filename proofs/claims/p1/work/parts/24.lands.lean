theorem o_lands : P2 (fX11_lands sm_n0) fX12_lands := sm_q2_ok (by decide +kernel)
