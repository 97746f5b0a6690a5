/-! every case keeps the invariant: the statement -/
theorem iv_all : lw_inv 100000000 0 71 89 II :=
  ⟨iv_0 (by decide), iv_1 (by decide), iv_2 (by decide), iv_3 (by decide), iv_4 (by decide), iv_5 (by decide), iv_6 (by decide), iv_7 (by decide), iv_8 (by decide), iv_9 (by decide), iv_10 (by decide), iv_11 (by decide), iv_12 (by decide), iv_13 (by decide), iv_14 (by decide), iv_15 (by decide), iv_16 (by decide), iv_17, iv_18 (by decide), iv_19, iv_20 (by decide), iv_21 (by decide), iv_22 (by decide)⟩
theorem i_vc : Claimed_1_1 ∧ Claimed_1_2 := lw_claim (F := 100000000) (I := II) (iv_h0 (by decide)) iv_all
