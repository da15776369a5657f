theorem i_vc_make {k : Nat} {u : SX} {v : SY} (I : i_Rel k u v) (hk : k + 4 ≤ 2048) : wpX_make (fun r u' => wpY_make (fun r' v' => r' = r ∧ i_Rel (k + 4) u' v') v) u := by
  obtain ⟨f_stackSize, f_transactions, f_putCount, f_blocks, f_tip, f_poolCount, f_queueCount, a_tokenCount, a_tokenOp, a_tokenValue, a_scriptInUse, a_stack, a_inputCount, a_inputCoin, a_inputA, a_inputB, a_outputCount, a_outputAmount, a_outputScript, a_feeOf, a_putRow, a_parentOf, a_heightOf, a_chainWork, a_blockState, a_rewardAmount, a_rewardScript, a_blockSize, a_blockTransaction, a_laidBlock, a_coinHeight, a_coinSpent, a_transactionHeight, a_poolRow, a_marked, a_queue⟩ := u
  obtain ⟨g_made, g_blocks, g_arrivals, g_tip, g_pooled, g_chainLength, b_op, b_arg, b_length, b_ins, b_inCoin, b_inA, b_inB, b_outs, b_amount, b_lock, b_parent, b_work, b_rewardLock, b_height, b_many, b_holds, b_delivered, b_arrived, b_pool, b_chain, b_from, b_worth, b_within, b_spent, b_stack, b_again, b_chosen⟩ := v
  have I' := I
  obtain ⟨made, blocks, tp, n, np, pc, ar, ⟨rfl, rfl, rfl, rfl, rfl⟩, ⟨rfl, rfl, rfl, rfl, rfl⟩, ⟨rfl, rfl, rfl, rfl⟩, ⟨rfl, rfl, rfl⟩, ST, B, RD, ⟨eh, hn⟩, hl, P, hS⟩ := I
  obtain ⟨tk, w, ag, fq, rq, hp0, us, df, pu, fr⟩ := ST
  have hm := w.2.2.1
  have df' := df
  obtain ⟨di, od, d1, d2, d3, d4, d5, d6, d7, d8, d9, d10⟩ := df'
  have d3' : a_inputCount made = nI di := d3
  have d4' : b_ins 40 = nI di := d4
  have d5' : a_outputCount made = nI od := d5
  have d6' : b_outs 40 = nI od := d6
  have emc : (nI made).toNatClampNeg = made := pk_cl made
  refine ⟨pk_in made 41 (by omega), ?_⟩
  rw [emc]
  refine pk_eq di 0 (fun e => br_t (by rw [d4', e]; rfl) ⟨rfl, I'⟩) (fun e => ⟨pk_in made 41 (by omega), ?_⟩) d3'
  have hine : ¬ b_ins 40 = 0 := fun q => e ((nI_eq (b := 0) (by omega) (by omega)).mp (d4'.symm.trans q))
  refine pk_eq od 0 (fun e2 => br_f hine (br_t (by rw [d6', e2]; rfl) ⟨rfl, I'⟩)) (fun e2 => ?_) d5'
  have hone : ¬ b_outs 40 = 0 := fun q => e2 ((nI_eq (b := 0) (by omega) (by omega)).mp (d6'.symm.trans q))
  refine pk_eq made 40 (fun e3 => br_f hine (br_f hone (br_t (by rw [e3]; rfl) ⟨rfl, I'⟩))) (fun e3 => ?_)
  refine xm_feeDraft hm d1 d2 d3' d5' (fun i hi => ?_) ⟨pk_in made 40 (by omega), nm_e ?_⟩
  · obtain ⟨_, _, _, c, c1, c2, _⟩ := d7 i hi
    exact ⟨c, c1, c2⟩
  refine xm_make46 (by omega) d2 d5' (fun o ho => ?_) ?_
  · obtain ⟨_, _, s, s1, s2⟩ := d9 o ho
    exact ⟨s, s1, s2⟩
  refine br_f hine (br_f hone (br_f (fun q => e3 ((nI_eq (b := 40) (by omega) (by omega)).mp q)) ⟨pk_in made 41 (by omega), nm_r (by rw [emc]) ⟨pk_in made 41 (by omega), nm_r (by rw [emc]) (ym_make68 (by omega) ⟨rfl, ?_⟩)⟩⟩))
  refine rl_make2 w ag tk fq rq hp0 us df pu fr (by omega) d1 d2 d3' d5' (by omega) (by omega) (fun t ht => pk_un (by omega)) pk_us (fun s => us_set_or _ _ _ _ _) (fun t ht => ?_) ?_ pk_us (fun t ht => ?_) ?_ pk_us
    (fun j hj => cp_no 3 (by omega)) (fun i hi => cp_in (by omega) 3 (by omega) hi) (fun j hj => cp_no 3 (by omega)) (fun i hi => cp_in (by omega) 3 (by omega) hi) (fun j hj => cp_no 3 (by omega)) (fun i hi => cp_in (by omega) 3 (by omega) hi) (fun j hj => cp_no 3 (by omega)) (fun i hi => cp_in (by omega) 3 (by omega) hi) (fun j hj => cp_no 3 (by omega)) (fun i hi => cp_in (by omega) 3 (by omega) hi) B RD eh hn hl P hS
  · rw [pk_un (by omega), pk_un (by omega)]
  · rw [pk_un (by omega), pk_us]
  · rw [pk_un (by omega), pk_un (by omega)]
  · rw [pk_un (by omega), pk_us]
