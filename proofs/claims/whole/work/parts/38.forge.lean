/-! forge -/
theorem cn_fdl {D : pd_D} {st dl av cw wk : pd_F} {x ar tp : Nat} (h32 : x + 1 ≤ 32) (B : cn_blk D st dl av cw wk (x + 1) ar tp 99) (ht : tp ≠ x) : cn_blk D st (upd dl x 1) av cw wk (x + 1) ar tp x := by
  obtain ⟨B1, B2, B3, B4, B5, ⟨T1, T2, T3, T4⟩, B7, B8⟩ := B
  refine ⟨fun b hb hx => ?_, B2, B3, fun b h1 h2 => ?_, B5, ⟨T1, ht, T3, T4⟩, B7, B8⟩
  · unfold cn_one
    rw [pk_un hx]
    exact B1 b hb (by omega)
  · rw [pk_un (by omega)]; exact B4 b h1 h2
section
variable {f_stackSize f_transactions f_putCount f_blocks f_tip f_poolCount f_queueCount : Int32} {a_tokenCount a_tokenOp a_tokenValue a_scriptInUse a_stack a_inputCount a_inputCoin a_inputA a_inputB a_outputCount a_outputAmount a_outputScript a_feeOf a_putRow a_parentOf a_heightOf a_chainWork a_blockState a_rewardAmount a_rewardScript a_blockSize a_blockTransaction a_laidBlock a_coinHeight a_coinSpent a_transactionHeight a_poolRow a_marked a_queue : Nat → Int32}
theorem ag_hd {made blocks : Nat} {pa' he' rs' : Nat → Int32} (h1 : ∀ b, b < blocks → pa' b = a_parentOf b) (h2 : ∀ b, b < blocks → he' b = a_heightOf b) (h3 : ∀ b, b < blocks → rs' b = a_rewardScript b) : pd_ag (a_tokenCount, a_tokenOp, a_tokenValue, a_inputCount, a_inputCoin, a_inputA, a_inputB, a_outputCount, a_outputAmount, a_outputScript, a_parentOf, a_heightOf, a_rewardScript, a_blockSize, a_blockTransaction, a_feeOf, a_rewardAmount) (a_tokenCount, a_tokenOp, a_tokenValue, a_inputCount, a_inputCoin, a_inputA, a_inputB, a_outputCount, a_outputAmount, a_outputScript, pa', he', rs', a_blockSize, a_blockTransaction, a_feeOf, a_rewardAmount) made blocks :=
  ⟨fun t _ => ⟨rfl, rfl, rfl, fun _ _ => ⟨rfl, rfl, rfl⟩, fun _ _ => ⟨rfl, rfl⟩⟩, fun b hb => ⟨h2 b hb, h3 b hb, rfl, rfl, fun _ => h1 b hb, fun _ _ => rfl⟩, fun s _ => ⟨rfl, fun _ _ => ⟨rfl, rfl⟩⟩⟩
theorem xm_forge65 {x3 : Int32} {post : Int32 → SX → Prop} (H : ∃ fuel, wX_forge_89 post x3 fuel 0 f_stackSize f_transactions f_putCount f_blocks f_tip f_poolCount f_queueCount a_tokenCount a_tokenOp a_tokenValue a_scriptInUse a_stack a_inputCount a_inputCoin a_inputA a_inputB a_outputCount a_outputAmount a_outputScript a_feeOf a_putRow a_parentOf a_heightOf a_chainWork a_blockState a_rewardAmount a_rewardScript a_blockSize a_blockTransaction a_laidBlock a_coinHeight a_coinSpent a_transactionHeight a_poolRow (pd_reset a_marked 12 0) a_queue) : ∃ fuel, wX_forge_65 post x3 f_stackSize f_transactions f_putCount f_blocks f_tip f_poolCount f_queueCount fuel 0 a_tokenCount a_tokenOp a_tokenValue a_scriptInUse a_stack a_inputCount a_inputCoin a_inputA a_inputB a_outputCount a_outputAmount a_outputScript a_feeOf a_putRow a_parentOf a_heightOf a_chainWork a_blockState a_rewardAmount a_rewardScript a_blockSize a_blockTransaction a_laidBlock a_coinHeight a_coinSpent a_transactionHeight a_poolRow a_marked a_queue := by
  have key : ∀ (d i fuel : Nat), i + d = 12 → d < fuel → wX_forge_65 post x3 f_stackSize f_transactions f_putCount f_blocks f_tip f_poolCount f_queueCount fuel (nI i) a_tokenCount a_tokenOp a_tokenValue a_scriptInUse a_stack a_inputCount a_inputCoin a_inputA a_inputB a_outputCount a_outputAmount a_outputScript a_feeOf a_putRow a_parentOf a_heightOf a_chainWork a_blockState a_rewardAmount a_rewardScript a_blockSize a_blockTransaction a_laidBlock a_coinHeight a_coinSpent a_transactionHeight a_poolRow (pd_reset a_marked i 0) a_queue := by
    intro d
    induction d with
    | zero =>
      intro i fuel hd hf
      obtain ⟨fuel, rfl⟩ : ∃ q, fuel = q + 1 := ⟨fuel - 1, by omega⟩
      obtain rfl : i = 12 := by omega
      exact br_t (by decide) H
    | succ d ih =>
      intro i fuel hd hf
      obtain ⟨fuel, rfl⟩ : ∃ q, fuel = q + 1 := ⟨fuel - 1, by omega⟩
      exact pk_le 12 i (fun z => by omega) (fun z => ⟨pk_in i 12 (by omega), nm_r (by rw [pk_cl i, xb_0, ← pd_reset_s]) (nm_r (nI_1 i) (ih (i + 1) fuel (by omega) (by omega)))⟩)
  have := key 12 0 13 (by omega) (by omega)
  rw [pd_reset_0] at this
  exact ⟨13, this⟩
end
section
variable {g_made g_blocks g_arrivals g_tip g_pooled g_chainLength : Int32} {b_op b_arg b_length b_ins b_inCoin b_inA b_inB b_outs b_amount b_lock b_parent b_work b_rewardLock b_height b_many b_holds b_delivered b_arrived b_pool b_chain b_from b_worth b_within b_spent b_stack b_again b_chosen gfe grw : Nat → Int32}
theorem ym_forge182 {x m : Nat} {q : Nat → Int32} (hx : x < 32) (hm : m ≤ 4) (hc : ∀ j, j < m → b_chosen j = q j) {post : Int32 → SY → Prop} (H : wpY_arrive (fun _ u => match u with | (g_madeq, g_blocksq, g_arrivalsq, g_tipq, g_pooledq, g_chainLengthq, b_opq, b_argq, b_lengthq, b_insq, b_inCoinq, b_inAq, b_inBq, b_outsq, b_amountq, b_lockq, b_parentq, b_workq, b_rewardLockq, b_heightq, b_manyq, b_holdsq, b_deliveredq, b_arrivedq, b_poolq, b_chainq, b_fromq, b_worthq, b_withinq, b_spentq, b_stackq, b_againq, b_chosenq) => post (nI x) (g_madeq, g_blocksq, g_arrivalsq, g_tipq, g_pooledq, g_chainLengthq, b_opq, b_argq, b_lengthq, b_insq, b_inCoinq, b_inAq, b_inBq, b_outsq, b_amountq, b_lockq, b_parentq, b_workq, b_rewardLockq, b_heightq, b_manyq, b_holdsq, b_deliveredq, b_arrivedq, b_poolq, b_chainq, b_fromq, b_worthq, b_withinq, b_spentq, b_stackq, b_againq, b_chosenq)) (g_made, g_blocks, g_arrivals, g_tip, g_pooled, g_chainLength, b_op, b_arg, b_length, b_ins, b_inCoin, b_inA, b_inB, b_outs, b_amount, b_lock, b_parent, b_work, b_rewardLock, b_height, upd b_many x (nI m), hc_set b_holds q (4 * x) m, upd b_delivered x 1, b_arrived, b_pool, b_chain, b_from, b_worth, b_within, b_spent, b_stack, b_again, b_chosen)) : ∃ fuel, wY_forge_182 post (nI m) (nI x) g_made g_blocks g_arrivals g_tip g_pooled g_chainLength fuel 0 b_op b_arg b_length b_ins b_inCoin b_inA b_inB b_outs b_amount b_lock b_parent b_work b_rewardLock b_height b_many b_holds b_delivered b_arrived b_pool b_chain b_from b_worth b_within b_spent b_stack b_again b_chosen := by
  have key : ∀ (d i fuel : Nat), i + d = m → d < fuel → wY_forge_182 post (nI m) (nI x) g_made g_blocks g_arrivals g_tip g_pooled g_chainLength fuel (nI i) b_op b_arg b_length b_ins b_inCoin b_inA b_inB b_outs b_amount b_lock b_parent b_work b_rewardLock b_height b_many (hc_set b_holds q (4 * x) i) b_delivered b_arrived b_pool b_chain b_from b_worth b_within b_spent b_stack b_again b_chosen := by
    intro d
    induction d with
    | zero =>
      intro i fuel hi hf
      obtain ⟨fuel, rfl⟩ : ∃ q, fuel = q + 1 := ⟨fuel - 1, by omega⟩
      obtain rfl : i = m := by omega
      exact br_t (nI_le (Nat.le_refl _) (by omega)) ⟨pk_in x 33 (by omega), nm_r (by rw [pk_cl x]) ⟨pk_in x 32 hx, nm_r (by rw [pk_cl x, xb_1]) H⟩⟩
    | succ d ih =>
      intro i fuel hi hf
      obtain ⟨fuel, rfl⟩ : ∃ q, fuel = q + 1 := ⟨fuel - 1, by omega⟩
      refine pk_le m i (fun z => by omega) (fun z => ⟨pk_in i 4 (by omega), pk_in (4 * x + i) 132 (by omega) (yb_4 x i), nm_r (e' := hc_set b_holds q (4 * x) (i + 1)) ?_ (nm_r (nI_1 i) (ih (i + 1) fuel (by omega) (by omega)))⟩)
      rw [pk_cl (4 * x + i) (yb_4 x i), pk_cl i, hc i (by omega), hc_set]
  exact ⟨m + 1, key m 0 (m + 1) (by omega) (by omega)⟩
end
section
variable {f_stackSize f_transactions f_putCount f_blocks f_tip f_poolCount f_queueCount : Int32} {a_tokenCount a_tokenOp a_tokenValue a_scriptInUse a_stack a_inputCount a_inputCoin a_inputA a_inputB a_outputCount a_outputAmount a_outputScript a_feeOf a_putRow a_parentOf a_heightOf a_chainWork a_blockState a_rewardAmount a_rewardScript a_blockSize a_blockTransaction a_laidBlock a_coinHeight a_coinSpent a_transactionHeight a_poolRow a_marked a_queue : Nat → Int32}
variable {g_made g_blocks g_arrivals g_tip g_pooled g_chainLength : Int32} {b_op b_arg b_length b_ins b_inCoin b_inA b_inB b_outs b_amount b_lock b_parent b_work b_rewardLock b_height b_many b_holds b_delivered b_arrived b_pool b_chain b_from b_worth b_within b_spent b_stack b_again b_chosen gfe grw : Nat → Int32}
theorem pl_hw {made blocks np : Nat} {S : pd_S} {pl : Nat → Int32} (w : pd_wf (a_tokenCount, a_tokenOp, a_tokenValue, a_inputCount, a_inputCoin, a_inputA, a_inputB, a_outputCount, a_outputAmount, a_outputScript, a_parentOf, a_heightOf, a_rewardScript, a_blockSize, a_blockTransaction, a_feeOf, a_rewardAmount) made blocks) (ag : pd_ag (a_tokenCount, a_tokenOp, a_tokenValue, a_inputCount, a_inputCoin, a_inputA, a_inputB, a_outputCount, a_outputAmount, a_outputScript, a_parentOf, a_heightOf, a_rewardScript, a_blockSize, a_blockTransaction, a_feeOf, a_rewardAmount) (b_length, b_op, b_arg, b_ins, b_inCoin, b_inA, b_inB, b_outs, b_amount, b_lock, b_parent, b_height, b_rewardLock, b_many, b_holds, gfe, grw) made blocks) (P : pd_pool (a_tokenCount, a_tokenOp, a_tokenValue, a_inputCount, a_inputCoin, a_inputA, a_inputB, a_outputCount, a_outputAmount, a_outputScript, a_parentOf, a_heightOf, a_rewardScript, a_blockSize, a_blockTransaction, a_feeOf, a_rewardAmount) S made pl np) : ∀ wo, pd_wor (b_length, b_op, b_arg, b_ins, b_inCoin, b_inA, b_inB, b_outs, b_amount, b_lock, b_parent, b_height, b_rewardLock, b_many, b_holds, gfe, grw) S.1 wo → ∀ k, k < np → ∀ i, i < (pd_ic (b_length, b_op, b_arg, b_ins, b_inCoin, b_inA, b_inB, b_outs, b_amount, b_lock, b_parent, b_height, b_rewardLock, b_many, b_holds, gfe, grw) (pl k).toNatClampNeg).toNatClampNeg → 120 ≤ (b_inCoin (3 * (pl k).toNatClampNeg + i)).toNatClampNeg → wo (b_inCoin (3 * (pl k).toNatClampNeg + i)).toNatClampNeg = grw ((b_inCoin (3 * (pl k).toNatClampNeg + i)).toNatClampNeg - 120) := by
  have hm := w.2.2.1
  intro wo wr k hk i hi h120
  obtain ⟨u, p1, p2, p3, p4, p5⟩ := P.2 k hk
  have euc := pd_cl p2 (by omega)
  rw [euc] at hi h120 ⊢
  obtain ⟨a1, _, _, a4, _⟩ := ag.1 u p1
  rw [a1] at hi
  have eco : b_inCoin (3 * u + i) = a_inputCoin (3 * u + i) := (a4 i hi).1
  obtain ⟨c, hc1, _, ecc, _⟩ := pd_wf_co w p1 hi
  have ecc' : (a_inputCoin (3 * u + i)).toNatClampNeg = c := ecc
  have q := p4 i hi
  rw [ecc] at q
  rw [eco, ecc'] at h120 ⊢
  rcases q with q | q
  · rw [wr c hc1 q.1]
    exact if_neg (by omega)
  · omega
end
