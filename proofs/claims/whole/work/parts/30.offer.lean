/-! offer -/
theorem i_vc_offer {k : Nat} {u : SX} {v : SY} (I : i_Rel k u v) (hk : k + 4 ≤ 2048) (v1 : Int32) : wpX_offer (fun r u' => wpY_offer (fun r' v' => r' = r ∧ i_Rel (k + 4) u' v') v v1) u v1 := by
  obtain ⟨f_stackSize, f_transactions, f_putCount, f_blocks, f_tip, f_poolCount, f_queueCount, a_tokenCount, a_tokenOp, a_tokenValue, a_scriptInUse, a_stack, a_inputCount, a_inputCoin, a_inputA, a_inputB, a_outputCount, a_outputAmount, a_outputScript, a_feeOf, a_putRow, a_parentOf, a_heightOf, a_chainWork, a_blockState, a_rewardAmount, a_rewardScript, a_blockSize, a_blockTransaction, a_laidBlock, a_coinHeight, a_coinSpent, a_transactionHeight, a_poolRow, a_marked, a_queue⟩ := u
  obtain ⟨g_made, g_blocks, g_arrivals, g_tip, g_pooled, g_chainLength, b_op, b_arg, b_length, b_ins, b_inCoin, b_inA, b_inB, b_outs, b_amount, b_lock, b_parent, b_work, b_rewardLock, b_height, b_many, b_holds, b_delivered, b_arrived, b_pool, b_chain, b_from, b_worth, b_within, b_spent, b_stack, b_again, b_chosen⟩ := v
  obtain ⟨made, blocks, tp, n, np, pc, ar, ⟨rfl, rfl, rfl, rfl, rfl⟩, ⟨rfl, rfl, rfl, rfl, rfl⟩, ⟨rfl, rfl, rfl, rfl⟩, ⟨rfl, rfl, rfl⟩, ST, B, RD, ⟨eh, hn⟩, hl, P, hS⟩ := I
  have ST' := ST
  obtain ⟨tk, w, ag, fq, rq, hp0, us, df, pu, fr⟩ := ST'
  have htp := B.2.2.2.2.2.1.1
  have vtp := B.2.2.2.2.2.1.2.2.2
  have ehE : b_height tp = nI n := ((ag.2.1 tp htp).1).trans eh
  have hI := pd_inv_lay w n tp htp eh hn
  obtain ⟨r, pl', np', P', hX, hY⟩ := ad_take (f_putCount := nI pc) (f_blocks := nI blocks) (a_scriptInUse := a_scriptInUse) (a_putRow := a_putRow) (a_chainWork := a_chainWork) (a_blockState := a_blockState)
      (g_blocks := nI blocks) (g_arrivals := nI ar) (b_work := b_work) (b_delivered := b_delivered) (b_arrived := b_arrived) (b_chosen := b_chosen)
      w (pd_wf_ag w ag) ag tk tk (pd_feq_ag w ag fq) hI (pd_rng_lay w n tp htp eh hn) (pd_sp_lay w n tp htp eh hn ((pd_va_n eh hn).mp vtp)) htp eh ehE hn P v1 1
  unfold wpX_offer wpY_offer
  dsimp only
  refine hX _ f_stackSize f_queueCount a_stack a_marked a_laidBlock a_queue fun ss st mk => ?_
  refine ry_tip (gfe := a_feeOf) (grw := a_rewardAmount) w ag tk fq rq htp eh hn vtp _ hS fun wo st2 ch hw hc => ?_
  refine hY _ _ st2 wo ch b_again hw fun st3 => ⟨rfl, ?_⟩
  exact ⟨made, blocks, tp, n, np', pc, ar, ⟨rfl, rfl, rfl, rfl, rfl⟩, ⟨rfl, rfl, rfl, rfl, rfl⟩, ⟨rfl, rfl, rfl, rfl⟩, ⟨rfl, rfl, rfl⟩, ST, B, RD, ⟨eh, hn⟩, hl, P', pd_inv_out hI⟩
