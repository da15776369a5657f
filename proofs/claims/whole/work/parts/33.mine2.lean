/-! mine -/
section
variable {f_stackSize f_transactions f_putCount f_blocks f_tip f_poolCount f_queueCount : Int32} {a_tokenCount a_tokenOp a_tokenValue a_scriptInUse a_stack a_inputCount a_inputCoin a_inputA a_inputB a_outputCount a_outputAmount a_outputScript a_feeOf a_putRow a_parentOf a_heightOf a_chainWork a_blockState a_rewardAmount a_rewardScript a_blockSize a_blockTransaction a_laidBlock a_coinHeight a_coinSpent a_transactionHeight a_poolRow a_marked a_queue : Nat → Int32}
theorem xq_work {x : Int32} {post : Int32 → Prop} (H0 : ¬ (∃ j, 1 ≤ j ∧ j ≤ 9 ∧ x = nI j) → (x < 1 ∨ (¬ x < 1 ∧ 9 < x)) → post 0) (H1 : ∀ j, 1 ≤ j → j ≤ 9 → x = nI j → ¬ x < 1 → ¬ 9 < x → post 1) : wpX_isWork post (f_stackSize, f_transactions, f_putCount, f_blocks, f_tip, f_poolCount, f_queueCount, a_tokenCount, a_tokenOp, a_tokenValue, a_scriptInUse, a_stack, a_inputCount, a_inputCoin, a_inputA, a_inputB, a_outputCount, a_outputAmount, a_outputScript, a_feeOf, a_putRow, a_parentOf, a_heightOf, a_chainWork, a_blockState, a_rewardAmount, a_rewardScript, a_blockSize, a_blockTransaction, a_laidBlock, a_coinHeight, a_coinSpent, a_transactionHeight, a_poolRow, a_marked, a_queue) x := by
  by_cases h1 : x < 1
  · refine br_t h1 (H0 (fun ⟨j, j1, j2, e⟩ => ?_) (Or.inl h1))
    rw [e] at h1
    exact nI_nlt (b := 1) j1 (by omega) h1
  · by_cases h9 : 9 < x
    · refine br_f h1 (br_t h9 (H0 (fun ⟨j, j1, j2, e⟩ => ?_) (Or.inr ⟨h1, h9⟩)))
      rw [e] at h9
      exact nI_nlt (a := 9) j2 (by omega) h9
    · have hx0 : ¬ x < 0 := fun q => h1 (Int32.lt_trans q (by decide))
      obtain ⟨j, hj, rfl⟩ := nI_of hx0
      have j1 : 1 ≤ j := by
        rcases Nat.lt_or_ge j 1 with q | q
        · exact (h1 (nI_lt (b := 1) q (by omega))).elim
        · exact q
      have j9 : j ≤ 9 := by
        rcases Nat.lt_or_ge 9 j with q | q
        · exact (h9 (nI_lt (a := 9) q hj)).elim
        · exact q
      exact br_f h1 (br_f h9 (H1 j j1 j9 rfl h1 h9))
end
theorem i_vc_mine {k : Nat} {u : SX} {v : SY} (I : i_Rel k u v) (hk : k + 4 ≤ 2048) (v1 : Int32) (v2 : Int32) (v3 : Int32) : wpX_mine (fun r u' => wpY_mine (fun r' v' => r' = r ∧ i_Rel (k + 4) u' v') v v1 v2 v3) u v1 v2 v3 := by
  obtain ⟨f_stackSize, f_transactions, f_putCount, f_blocks, f_tip, f_poolCount, f_queueCount, a_tokenCount, a_tokenOp, a_tokenValue, a_scriptInUse, a_stack, a_inputCount, a_inputCoin, a_inputA, a_inputB, a_outputCount, a_outputAmount, a_outputScript, a_feeOf, a_putRow, a_parentOf, a_heightOf, a_chainWork, a_blockState, a_rewardAmount, a_rewardScript, a_blockSize, a_blockTransaction, a_laidBlock, a_coinHeight, a_coinSpent, a_transactionHeight, a_poolRow, a_marked, a_queue⟩ := u
  obtain ⟨g_made, g_blocks, g_arrivals, g_tip, g_pooled, g_chainLength, b_op, b_arg, b_length, b_ins, b_inCoin, b_inA, b_inB, b_outs, b_amount, b_lock, b_parent, b_work, b_rewardLock, b_height, b_many, b_holds, b_delivered, b_arrived, b_pool, b_chain, b_from, b_worth, b_within, b_spent, b_stack, b_again, b_chosen⟩ := v
  have I' := I
  obtain ⟨made, blocks, tp, n, np, pc, ar, ⟨rfl, rfl, rfl, rfl, rfl⟩, ⟨rfl, rfl, rfl, rfl, rfl⟩, ⟨rfl, rfl, rfl, rfl⟩, ⟨rfl, rfl, rfl⟩, ST, B, RD, ⟨eh, hn⟩, hl, P, hS⟩ := I
  have ST0 := ST
  obtain ⟨tk, w, ag, fq, rq, hp0, us, df, pu, fr⟩ := ST0
  have hbk := w.2.1
  have hm := w.2.2.1
  have htp := B.2.2.2.2.2.1.1
  obtain ⟨hpc, epc, hpr⟩ := pu
  have epc' : b_many 32 = nI pc := epc
  rcases pk_ix v1 (n := blocks) (by omega) with h | h | ⟨p, hp, rfl⟩
  · exact br_t h (br_t rfl (br_t h (br_t rfl ⟨rfl, I'⟩)))
  · have h0 : ¬ v1 < 0 := Int32.not_lt.mpr (Int32.le_trans (nI_pos' (by omega)) h)
    exact br_f h0 (br_t h (br_t rfl (br_f h0 (br_t h (br_t rfl ⟨rfl, I'⟩)))))
  have p0 : ¬ nI p < 0 := nI_pos (by omega)
  have p1 : ¬ nI blocks ≤ nI p := nI_ge hp (by omega)
  have epp : (nI p).toNatClampNeg = p := pk_cl p
  refine br_f p0 (br_f p1 (br_f (by decide) (xq_work (fun _ hbad => br_t rfl ?_) (fun j j1 j9 ej h1 h9 => br_f (by decide) ?_))))
  · rcases hbad with q | ⟨q1, q2⟩
    · exact br_f p0 (br_f p1 (br_f (by decide) (br_t q ⟨rfl, I'⟩)))
    · exact br_f p0 (br_f p1 (br_f (by decide) (br_f q1 (br_t q2 ⟨rfl, I'⟩))))
  rcases pk_ix v3 (n := 8) (by omega) with h | h | ⟨s, hs, rfl⟩
  · exact br_t h (br_t rfl (br_f p0 (br_f p1 (br_f (by decide) (br_f h1 (br_f h9 (br_t h (br_t rfl ⟨rfl, I'⟩))))))))
  · have h0 : ¬ v3 < 0 := Int32.not_lt.mpr (Int32.le_trans (by decide) h)
    exact br_f h0 (br_t h (br_t rfl (br_f p0 (br_f p1 (br_f (by decide) (br_f h1 (br_f h9 (br_f h0 (br_t h (br_t rfl ⟨rfl, I'⟩))))))))))
  have s0 : ¬ nI s < 0 := nI_pos (by omega)
  have s8 : ¬ (8 : Int32) ≤ nI s := nI_ge (b := 8) hs (by omega)
  have goY : ∀ post : Int32 → SY → Prop, ((nI blocks = 32 → post (-5) (nI made, nI blocks, nI ar, nI tp, nI np, g_chainLength, a_tokenOp, a_tokenValue, a_tokenCount, b_ins, b_inCoin, b_inA, b_inB, b_outs, b_amount, b_lock, b_parent, b_work, b_rewardLock, b_height, b_many, b_holds, b_delivered, b_arrived, a_poolRow, b_chain, b_from, b_worth, b_within, b_spent, b_stack, b_again, b_chosen)) ∧ (¬ nI blocks = 32 → wpY_add (fun r_8 u => match u with | (g_madeq, g_blocksq, g_arrivalsq, g_tipq, g_pooledq, g_chainLengthq, b_opq, b_argq, b_lengthq, b_insq, b_inCoinq, b_inAq, b_inBq, b_outsq, b_amountq, b_lockq, b_parentq, b_workq, b_rewardLockq, b_heightq, b_manyq, b_holdsq, b_deliveredq, b_arrivedq, b_poolq, b_chainq, b_fromq, b_worthq, b_withinq, b_spentq, b_stackq, b_againq, b_chosenq) => (∃ n57 : Nat, wY_mine_57 post r_8 g_madeq g_blocksq g_arrivalsq g_tipq g_pooledq g_chainLengthq n57 0 b_opq b_argq b_lengthq b_insq b_inCoinq b_inAq b_inBq b_outsq b_amountq b_lockq b_parentq b_workq b_rewardLockq b_heightq b_manyq b_holdsq b_deliveredq b_arrivedq b_poolq b_chainq b_fromq b_worthq b_withinq b_spentq b_stackq b_againq b_chosenq)) (nI made, nI blocks, nI ar, nI tp, nI np, g_chainLength, a_tokenOp, a_tokenValue, a_tokenCount, b_ins, b_inCoin, b_inA, b_inB, b_outs, b_amount, b_lock, b_parent, b_work, b_rewardLock, b_height, b_many, b_holds, b_delivered, b_arrived, a_poolRow, b_chain, b_from, b_worth, b_within, b_spent, b_stack, b_again, b_chosen) (nI p) v2 (nI s))) → wpY_mine post (nI made, nI blocks, nI ar, nI tp, nI np, g_chainLength, a_tokenOp, a_tokenValue, a_tokenCount, b_ins, b_inCoin, b_inA, b_inB, b_outs, b_amount, b_lock, b_parent, b_work, b_rewardLock, b_height, b_many, b_holds, b_delivered, b_arrived, a_poolRow, b_chain, b_from, b_worth, b_within, b_spent, b_stack, b_again, b_chosen) (nI p) v2 (nI s) := fun post H => br_f p0 (br_f p1 (br_f (by decide) (br_f h1 (br_f h9 (br_f s0 (br_f s8 (br_f (by decide) H)))))))
  refine br_f s0 (br_f s8 (br_f (by decide) (pk_eq blocks 32 (fun e => goY _ (br_t (by rw [e]; rfl) ⟨rfl, I'⟩)) (fun e => ⟨pk_in p 32 (by omega), pk_in p 32 (by omega), ?_⟩))))
  rw [epp]
  have hne : ¬ nI blocks = 32 := fun q => e ((nI_eq (b := 32) (by omega) (by omega)).mp q)
  have hb32 : blocks < 32 := by omega
  refine xm_addBlock hb32 hs ⟨pc + 1, ?_⟩
  refine xm_mine65 (x0 := (64 : Int32) >>> (((a_heightOf p + 1) / 4) &&& 31)) hb32 hpc a_blockSize a_blockTransaction a_rewardAmount (fun i hi => ?_) (fun bs bt rw hI => ?_) pc 0 (pc + 1) _ _ _ (by omega) (by omega) ⟨fr blocks (Nat.le_refl _) hb32, fun y _ => rfl, fun _ _ => rfl, fun j hj => by omega, fun y hy => pk_un hy, pk_us⟩
  · obtain ⟨_, t, t1, t2⟩ := hpr i hi
    exact ⟨t, by omega, t2⟩
  refine goY _ (br_f hne (ym_add (by omega) (by omega) ⟨pc + 1, ?_⟩))
  refine ym_mine57 hb32 hpc (by rw [pk_un (by omega)]; exact epc') b_holds (fun ho hJ => ⟨rfl, ?_⟩) pc 0 (pc + 1) b_holds (by omega) (by omega) ⟨fun _ _ => rfl, fun j hj => by omega, fun _ _ => rfl⟩
  have hJ' : nb_J b_holds a_putRow blocks pc ho := ⟨hJ.1, fun j hj => (hJ.2.1 j hj).trans ((hpr j hj).1).symm, hJ.2.2⟩
  obtain ⟨hN, ST'⟩ := st_nb (pa' := upd a_parentOf blocks (nI p)) (he' := upd a_heightOf blocks (a_heightOf p + 1)) (rs' := upd a_rewardScript blocks (nI s)) (bs' := bs) (bt' := bt) (rw' := rw) (use' := upd a_scriptInUse s 1) (qa := upd b_parent blocks (nI p)) (qh := upd b_height blocks (b_height p + 1)) (ql := upd b_rewardLock blocks (nI s)) (qm := upd (upd (upd b_many blocks 0) blocks (nI pc)) 32 0) (qo := ho) (pr' := a_putRow) (pc' := 0)
    ST hp hs hpc (by omega) a_putRow (fun i hi => (hpr i hi).2) pk_us rfl (fun b hb => pk_un (by omega)) rfl (by rw [pk_us]; exact hI) rfl rfl rfl rfl (fun b hb => by rw [pk_un (by omega), pk_un (by omega), pk_un (by omega)]) (by rw [pk_un (by omega), pk_us]) pk_us hJ' ⟨by omega, fun i hi => by omega⟩
  obtain ⟨tk', w', aE', fq', rq', hp0', us', df', pu', fr'⟩ := ST'
  exact rl_nb w (nb_ag w hN) w' aE' tk' fq rq' hp0' us' df' pu' fr' (nb_blk w hN hp (by omega) B (fun b hb => pk_un (by omega)) (fun b hb => pk_un (by omega)) pk_us pk_us ⟨j, j9, ej⟩) (nb_rdy w hN (B.2.2.2.1 blocks (Nat.le_refl _) hb32).1 RD) htp eh hn hl P hS
