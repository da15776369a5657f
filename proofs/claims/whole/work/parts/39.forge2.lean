theorem i_vc_forge {k : Nat} {u : SX} {v : SY} (I : i_Rel k u v) (hk : k + 4 ≤ 2048) (v1 : Int32) (v2 : Int32) : wpX_forge (fun r u' => wpY_forge (fun r' v' => r' = r ∧ i_Rel (k + 4) u' v') v v1 v2) u v1 v2 := by
  obtain ⟨f_stackSize, f_transactions, f_putCount, f_blocks, f_tip, f_poolCount, f_queueCount, a_tokenCount, a_tokenOp, a_tokenValue, a_scriptInUse, a_stack, a_inputCount, a_inputCoin, a_inputA, a_inputB, a_outputCount, a_outputAmount, a_outputScript, a_feeOf, a_putRow, a_parentOf, a_heightOf, a_chainWork, a_blockState, a_rewardAmount, a_rewardScript, a_blockSize, a_blockTransaction, a_laidBlock, a_coinHeight, a_coinSpent, a_transactionHeight, a_poolRow, a_marked, a_queue⟩ := u
  obtain ⟨g_made, g_blocks, g_arrivals, g_tip, g_pooled, g_chainLength, b_op, b_arg, b_length, b_ins, b_inCoin, b_inA, b_inB, b_outs, b_amount, b_lock, b_parent, b_work, b_rewardLock, b_height, b_many, b_holds, b_delivered, b_arrived, b_pool, b_chain, b_from, b_worth, b_within, b_spent, b_stack, b_again, b_chosen⟩ := v
  have I' := I
  obtain ⟨made, blocks, tp, n, np, pc, ar, ⟨rfl, rfl, rfl, rfl, rfl⟩, ⟨rfl, rfl, rfl, rfl, rfl⟩, ⟨rfl, rfl, rfl, rfl⟩, ⟨rfl, rfl, rfl⟩, ST, B, RD, ⟨eh, hn⟩, hl, P, hS⟩ := I
  have ST0 := ST
  obtain ⟨tk, w, ag, fq, rq, hp0, us, df, pu, fr⟩ := ST0
  have hbk := w.2.1
  have hb1 := w.1
  have hm := w.2.2.1
  have hnp := P.1
  have wE := pd_wf_ag w ag
  obtain ⟨htp, _, atp, vtp⟩ := B.2.2.2.2.2.1
  have har : ar ≤ 32 := by rw [B.2.2.1]; exact pd_cnt_le _ _
  obtain ⟨hpc, epc, hpr⟩ := pu
  have epc' : b_many 32 = nI pc := epc
  have hO := pd_inv_out (pd_inv_lay w n tp htp eh hn)
  unfold wpX_forge
  dsimp only
  refine xq_work (fun _ hbad => br_t rfl ?_) (fun j j1 j9 ej h1 h9 => br_f (by decide) ?_)
  · rcases hbad with q | ⟨q1, q2⟩
    · exact br_t q ⟨rfl, I'⟩
    · exact br_f q1 (br_t q2 ⟨rfl, I'⟩)
  rcases pk_ix v2 (n := 8) (by omega) with h | h | ⟨s, hs, rfl⟩
  · exact br_t h (br_t rfl (br_f h1 (br_f h9 (br_t h (br_t rfl ⟨rfl, I'⟩)))))
  · have h0 : ¬ v2 < 0 := Int32.not_lt.mpr (Int32.le_trans (by decide) h)
    exact br_f h0 (br_t h (br_t rfl (br_f h1 (br_f h9 (br_f h0 (br_t h (br_t rfl ⟨rfl, I'⟩)))))))
  have s0 : ¬ nI s < 0 := nI_pos (by omega)
  have s8 : ¬ (8 : Int32) ≤ nI s := nI_ge (b := 8) hs (by omega)
  have etp : (nI tp).toNatClampNeg = tp := pk_cl tp
  refine br_f s0 (br_f s8 (br_f (by decide) (pk_eq blocks 32 (fun e => br_f h1 (br_f h9 (br_f s0 (br_f s8 (br_f (by decide) (br_t (by rw [e]; rfl) ⟨rfl, I'⟩)))))) (fun e => ⟨pk_in tp 32 (by omega), pk_in tp 32 (by omega), ?_⟩))))
  rw [etp]
  have hne : ¬ nI blocks = 32 := fun q => e ((nI_eq (b := 32) (by omega) (by omega)).mp q)
  have hb32 : blocks < 32 := by omega
  -- the choice
  have a1 : pd_ag (a_tokenCount, a_tokenOp, a_tokenValue, a_inputCount, a_inputCoin, a_inputA, a_inputB, a_outputCount, a_outputAmount, a_outputScript, a_parentOf, a_heightOf, a_rewardScript, a_blockSize, a_blockTransaction, a_feeOf, a_rewardAmount) (a_tokenCount, a_tokenOp, a_tokenValue, a_inputCount, a_inputCoin, a_inputA, a_inputB, a_outputCount, a_outputAmount, a_outputScript, upd a_parentOf blocks (nI tp), upd a_heightOf blocks (a_heightOf tp + 1), upd a_rewardScript blocks (nI s), a_blockSize, a_blockTransaction, a_feeOf, a_rewardAmount) made blocks := ag_hd (fun b hb => pk_un (by omega)) (fun b hb => pk_un (by omega)) (fun b hb => pk_un (by omega))
  obtain ⟨m, q', m4, _, hq', _, hXr, hYr⟩ := fr_both (x0 := (64 : Int32) >>> (((a_heightOf tp + 1) / 4) &&& 31)) (pl := a_poolRow) (np := np) (W := fun wo => pd_wor (a_tokenCount, a_tokenOp, a_tokenValue, b_ins, b_inCoin, b_inA, b_inB, b_outs, b_amount, b_lock, b_parent, b_height, b_rewardLock, b_many, b_holds, a_feeOf, a_rewardAmount) (pd_lay (a_tokenCount, a_tokenOp, a_tokenValue, a_inputCount, a_inputCoin, a_inputA, a_inputB, a_outputCount, a_outputAmount, a_outputScript, a_parentOf, a_heightOf, a_rewardScript, a_blockSize, a_blockTransaction, a_feeOf, a_rewardAmount) n tp).1 wo)
    (f_stackSize := f_stackSize) (f_transactions := nI made) (f_putCount := nI pc) (f_blocks := nI (blocks + 1)) (f_tip := nI tp) (f_queueCount := f_queueCount) (a_scriptInUse := upd a_scriptInUse s 1) (a_stack := a_stack) (a_putRow := a_putRow) (a_chainWork := upd a_chainWork blocks (a_chainWork tp + v1)) (a_blockState := a_blockState) (a_laidBlock := a_laidBlock) (a_coinHeight := (pd_lay (a_tokenCount, a_tokenOp, a_tokenValue, a_inputCount, a_inputCoin, a_inputA, a_inputB, a_outputCount, a_outputAmount, a_outputScript, a_parentOf, a_heightOf, a_rewardScript, a_blockSize, a_blockTransaction, a_feeOf, a_rewardAmount) n tp).1) (a_coinSpent := (pd_lay (a_tokenCount, a_tokenOp, a_tokenValue, a_inputCount, a_inputCoin, a_inputA, a_inputB, a_outputCount, a_outputAmount, a_outputScript, a_parentOf, a_heightOf, a_rewardScript, a_blockSize, a_blockTransaction, a_feeOf, a_rewardAmount) n tp).2.1) (a_transactionHeight := (pd_lay (a_tokenCount, a_tokenOp, a_tokenValue, a_inputCount, a_inputCoin, a_inputA, a_inputB, a_outputCount, a_outputAmount, a_outputScript, a_parentOf, a_heightOf, a_rewardScript, a_blockSize, a_blockTransaction, a_feeOf, a_rewardAmount) n tp).2.2) (a_queue := a_queue)
    (g_made := nI made) (g_blocks := nI blocks) (g_arrivals := nI ar) (g_tip := nI tp) (b_work := b_work) (b_delivered := b_delivered) (b_arrived := b_arrived) (b_from := (pd_lay (a_tokenCount, a_tokenOp, a_tokenValue, a_inputCount, a_inputCoin, a_inputA, a_inputB, a_outputCount, a_outputAmount, a_outputScript, a_parentOf, a_heightOf, a_rewardScript, a_blockSize, a_blockTransaction, a_feeOf, a_rewardAmount) n tp).1) (b_spent := (pd_lay (a_tokenCount, a_tokenOp, a_tokenValue, a_inputCount, a_inputCoin, a_inputA, a_inputB, a_outputCount, a_outputAmount, a_outputScript, a_parentOf, a_heightOf, a_rewardScript, a_blockSize, a_blockTransaction, a_feeOf, a_rewardAmount) n tp).2.1) (b_within := (pd_lay (a_tokenCount, a_tokenOp, a_tokenValue, a_inputCount, a_inputCoin, a_inputA, a_inputB, a_outputCount, a_outputAmount, a_outputScript, a_parentOf, a_heightOf, a_rewardScript, a_blockSize, a_blockTransaction, a_feeOf, a_rewardAmount) n tp).2.2) (b_again := b_again) (b_chosen := b_chosen)
    (pd_wf_ag w a1) wE (pd_ag_trans (pd_ag_symm a1) ag) (pd_feq_ag w ag fq) hb32 hnp (pd_pool_pl P) (fun i j hi hj q => pd_pool_inj P hi hj q) (pl_hw w ag P) 4 0 rfl (pd_reset a_marked 12 0) (fun _ => 0) (fun k hk => ⟨fun _ ⟨j, hj, _⟩ => by omega, fun _ => if_pos (by omega)⟩) (fun j hj => by omega)
  refine xm_addBlock hb32 hs (xm_forge65 ⟨5, hXr _ a_blockSize a_blockTransaction _ ⟨fr blocks (Nat.le_refl _) hb32, fun y _ => rfl, fun _ _ => rfl, fun j hj => by omega, fun y hy => pk_un hy, pk_us⟩ (fun mk' bs' bt' rw' hI => ?_) 5 (by omega)⟩)
  -- the new block, on both sides
  have hJ : nb_J b_holds q' blocks m (hc_set b_holds q' (4 * blocks) m) := ⟨fun j hj => hc_no m (by omega), fun j hj => hc_in m hj, fun j hj => hc_no m (by omega)⟩
  obtain ⟨hN, ST'⟩ := st_nb (pa' := upd a_parentOf blocks (nI tp)) (he' := upd a_heightOf blocks (a_heightOf tp + 1)) (rs' := upd a_rewardScript blocks (nI s)) (bs' := bs') (bt' := bt') (rw' := rw') (use' := upd a_scriptInUse s 1) (qa := upd b_parent blocks (nI tp)) (qh := upd b_height blocks (b_height tp + 1)) (ql := upd b_rewardLock blocks (nI s)) (qm := upd (upd b_many blocks 0) blocks (nI m)) (qo := hc_set b_holds q' (4 * blocks) m) (pr' := a_putRow) (pc' := pc)
    ST htp hs m4 (by omega) q' hq' pk_us rfl (fun b hb => pk_un (by omega)) rfl (by rw [pk_us]; exact hI) rfl rfl rfl rfl (fun b hb => by rw [pk_un (by omega), pk_un (by omega)]) pk_us (by rw [pk_un (by omega), pk_un (by omega)]; exact epc') hJ ⟨hpc, hpr⟩
  have ST2 := ST'
  obtain ⟨tk', w', aE', fq', rq', hp0', us', df', pu', fr'⟩ := ST'
  have aN := nb_ag w hN
  have B1 := nb_blk (cw' := upd a_chainWork blocks (a_chainWork tp + v1)) (wk' := upd b_work blocks v1) w hN htp (by omega) B (fun b hb => pk_un (by omega)) (fun b hb => pk_un (by omega)) pk_us pk_us ⟨j, j9, ej⟩
  have B2 := cn_fdl (by omega) B1 (by omega)
  have eav : b_arrived blocks = -1 := (B.2.2.2.1 blocks (Nat.le_refl _) hb32).2.1
  have R1 : cn_rdb (a_tokenCount, a_tokenOp, a_tokenValue, a_inputCount, a_inputCoin, a_inputA, a_inputB, a_outputCount, a_outputAmount, a_outputScript, upd a_parentOf blocks (nI tp), upd a_heightOf blocks (a_heightOf tp + 1), upd a_rewardScript blocks (nI s), bs', bt', a_feeOf, rw') (upd b_delivered blocks 1) b_arrived blocks := by
    intro c c0 hc e1 e2
    rw [pk_un (by omega)] at e1
    exact cn_rdy_ag aN RD c c0 hc e1 e2
  have epar : (upd a_parentOf blocks (nI tp) blocks).toNatClampNeg = tp := by rw [pk_us]; exact etp
  have eht : upd a_heightOf blocks (a_heightOf tp + 1) tp = nI n := by rw [pk_un (by omega)]; exact eh
  have elay := pd_ag_lay w aN n tp htp eh hn
  have P2 := pd_pool_ag aN P
  rw [← elay] at P2
  obtain ⟨T, nT, np', pl', z, hT, eT, hnT, P', hz, B', hX1, hY1⟩ := ar_one (a_blockState := a_blockState) (b_arrived := b_arrived) (b := blocks) (pl := a_poolRow) (f_putCount := nI pc) (a_scriptInUse := upd a_scriptInUse s 1) (a_putRow := a_putRow) (b_chosen := hc_set b_chosen q' 0 m) w' aE' tk' tk' fq' rq' hp0' B2 (by omega) (by omega) pk_us eav (by rw [epar]; exact atp) eht hn P2
  have R2 := cn_rdb_arr (b := blocks) (ar := ar) w' (by omega) (by omega) R1
  refine hX1 _ (pd_lay (a_tokenCount, a_tokenOp, a_tokenValue, a_inputCount, a_inputCoin, a_inputA, a_inputB, a_outputCount, a_outputAmount, a_outputScript, a_parentOf, a_heightOf, a_rewardScript, a_blockSize, a_blockTransaction, a_feeOf, a_rewardAmount) n tp) f_stackSize f_queueCount a_stack mk' a_laidBlock a_queue hO (fun ss st mk laid qc q hl' => ?_)
  -- Y
  refine br_f h1 (br_f h9 (br_f s0 (br_f s8 (br_f (by decide) (br_f hne ?_)))))
  refine ry_tip (gfe := a_feeOf) (grw := a_rewardAmount) w ag tk fq rq htp eh hn vtp _ hS fun wo st2 ch hw hc => ⟨5, ?_⟩
  refine hYr _ v1 (nI s) _ wo st2 ch hw ?_ 5 (by omega)
  refine ym_add (by omega) (by omega) (ym_forge182 (q := q') hb32 m4 (fun j hj => ?_) ?_)
  · have := hc_in (f := b_chosen) (q := q') (base := 0) m hj
    rw [Nat.zero_add] at this
    exact this
  have wE' := pd_wf_ag w' aE'
  have hpaE : ∀ c, 0 < c → c < blocks + 1 → upd b_parent blocks (nI tp) c = upd a_parentOf blocks (nI tp) c := fun c c0 hc => (aE'.2.1 c hc).2.2.2.2.1 c0
  have h01 : ∀ c, c < blocks + 1 → (upd b_delivered blocks 1 c = 0 ∨ upd b_delivered blocks 1 c = 1) ∧ (b_arrived c = -1 ∨ 0 ≤ b_arrived c) := by
    intro c hc
    by_cases ec : c = blocks
    · subst ec; exact ⟨Or.inr pk_us, Or.inl eav⟩
    · rw [pk_un ec]; exact cn_h01 hbk B c (by omega)
  refine ⟨3, br_f (by decide) ⟨blocks + 2, ym_scanF (gfe := a_feeOf) (grw := rw') (b := blocks) (ar := ar) (Q := fun u => ∃ (S' : pd_S) (wo' ch' sk' ag' : Nat → Int32) (cl' : Int32), pd_out S' ∧ u = (nI made, nI (blocks + 1), nI (ar + 1), nI T, nI np', cl', a_tokenOp, a_tokenValue, a_tokenCount, b_ins, b_inCoin, b_inA, b_inB, b_outs, b_amount, b_lock, upd b_parent blocks (nI tp), upd b_work blocks v1, upd b_rewardLock blocks (nI s), upd b_height blocks (b_height tp + 1), upd (upd b_many blocks 0) blocks (nI m), hc_set b_holds q' (4 * blocks) m, upd b_delivered blocks 1, upd b_arrived blocks (nI ar), pl', ch', (S').1, wo', (S').2.2, (S').2.1, sk', ag', hc_set b_chosen q' 0 m)) wE' rfl rfl (by omega) (by omega) h01 pk_us eav ?_ (fun post' hq => hY1 post' _ _ _ _ _ _ hO fun S' wo' ch' sk' ag' cl' ho => hq _ ⟨S', wo', ch', sk', ag', cl', ho, rfl⟩) ?_ (blocks - 1) 1 (blocks + 2) (by omega) (by omega) (by omega) (fun c hc1 hc2 e1 e2 => ?_)⟩⟩
  · rw [hpaE blocks (by omega) (by omega), epar]; exact atp
  · rintro u ⟨S', wo', ch', sk', ag', cl', ho, rfl⟩
    dsimp only
    refine br_f (by decide) ⟨blocks + 2, ym_scanN (gfe := a_feeOf) (grw := rw') wE' rfl (cn_h01 (by omega) B') (br_t rfl ?_) blocks 1 (blocks + 2) (by omega) (by omega) (by omega) (fun c hc1 hc2 e1 e2 => ?_)⟩
    · refine ⟨rfl, ?_⟩
      exact ⟨made, blocks + 1, T, nT, np', pc, ar + 1, ⟨rfl, rfl, rfl, rfl, rfl⟩, ⟨rfl, rfl, rfl, rfl, rfl⟩, ⟨rfl, rfl, rfl, rfl⟩, ⟨rfl, rfl, rfl⟩, ST2, B', R2, ⟨eT, hnT⟩, hl', P', ho⟩
    · rw [hpaE c (by omega) hc2]
      exact R2 c (by omega) hc2 e1 e2
  · rw [hpaE c (by omega) (by omega)]
    exact R1 c (by omega) hc2 e1 e2
