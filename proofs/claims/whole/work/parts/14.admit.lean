/-! X lets in, Y takes: side by side -/
section
variable {f_stackSize f_transactions f_putCount f_blocks f_tip f_poolCount f_queueCount : Int32} {a_tokenCount a_tokenOp a_tokenValue a_scriptInUse a_stack a_inputCount a_inputCoin a_inputA a_inputB a_outputCount a_outputAmount a_outputScript a_feeOf a_putRow a_parentOf a_heightOf a_chainWork a_blockState a_rewardAmount a_rewardScript a_blockSize a_blockTransaction a_laidBlock a_coinHeight a_coinSpent a_transactionHeight a_poolRow a_marked a_queue : Nat → Int32}
variable {g_made g_blocks g_arrivals g_tip g_pooled g_chainLength : Int32} {b_op b_arg b_length b_ins b_inCoin b_inA b_inB b_outs b_amount b_lock b_parent b_work b_rewardLock b_height b_many b_holds b_delivered b_arrived b_pool b_chain b_from b_worth b_within b_spent b_stack b_again b_chosen gfe grw : Nat → Int32}
theorem ad_take {made blocks np tp n : Nat} {S : pd_S} {pl : Nat → Int32} (w : pd_wf (a_tokenCount, a_tokenOp, a_tokenValue, a_inputCount, a_inputCoin, a_inputA, a_inputB, a_outputCount, a_outputAmount, a_outputScript, a_parentOf, a_heightOf, a_rewardScript, a_blockSize, a_blockTransaction, a_feeOf, a_rewardAmount) made blocks) (wE : pd_wf (b_length, b_op, b_arg, b_ins, b_inCoin, b_inA, b_inB, b_outs, b_amount, b_lock, b_parent, b_height, b_rewardLock, b_many, b_holds, gfe, grw) made blocks) (ag : pd_ag (a_tokenCount, a_tokenOp, a_tokenValue, a_inputCount, a_inputCoin, a_inputA, a_inputB, a_outputCount, a_outputAmount, a_outputScript, a_parentOf, a_heightOf, a_rewardScript, a_blockSize, a_blockTransaction, a_feeOf, a_rewardAmount) (b_length, b_op, b_arg, b_ins, b_inCoin, b_inA, b_inB, b_outs, b_amount, b_lock, b_parent, b_height, b_rewardLock, b_many, b_holds, gfe, grw) made blocks) (tk : fx_tok a_tokenCount a_tokenOp a_tokenValue) (tkE : fx_tok b_length b_op b_arg) (fq : pd_feq (b_length, b_op, b_arg, b_ins, b_inCoin, b_inA, b_inB, b_outs, b_amount, b_lock, b_parent, b_height, b_rewardLock, b_many, b_holds, gfe, grw) made)
    (I : pd_inv (a_tokenCount, a_tokenOp, a_tokenValue, a_inputCount, a_inputCoin, a_inputA, a_inputB, a_outputCount, a_outputAmount, a_outputScript, a_parentOf, a_heightOf, a_rewardScript, a_blockSize, a_blockTransaction, a_feeOf, a_rewardAmount) made blocks S) (rg : pd_rng S.1) (sp : ∀ c, c < 152 → ¬ S.2.1 c = 0 → 0 ≤ S.1 c)
    (htp : tp < blocks) (eh : a_heightOf tp = nI n) (eh' : b_height tp = nI n) (hn : n < 32) (P : pd_pool (a_tokenCount, a_tokenOp, a_tokenValue, a_inputCount, a_inputCoin, a_inputA, a_inputB, a_outputCount, a_outputAmount, a_outputScript, a_parentOf, a_heightOf, a_rewardScript, a_blockSize, a_blockTransaction, a_feeOf, a_rewardAmount) S made pl np) (x rep : Int32) :
    ∃ (r : Int32) (pl' : Nat → Int32) (np' : Nat), pd_pool (a_tokenCount, a_tokenOp, a_tokenValue, a_inputCount, a_inputCoin, a_inputA, a_inputB, a_outputCount, a_outputAmount, a_outputScript, a_parentOf, a_heightOf, a_rewardScript, a_blockSize, a_blockTransaction, a_feeOf, a_rewardAmount) S made pl' np'
      ∧ (∀ (post : Int32 → SX → Prop) (ss0 qc0 : Int32) (st0 mk0 lb0 q0 : Nat → Int32), (∀ ss st mk, post r (ss, nI made, f_putCount, f_blocks, nI tp, nI np', qc0, a_tokenCount, a_tokenOp, a_tokenValue, a_scriptInUse, st, a_inputCount, a_inputCoin, a_inputA, a_inputB, a_outputCount, a_outputAmount, a_outputScript, a_feeOf, a_putRow, a_parentOf, a_heightOf, a_chainWork, a_blockState, a_rewardAmount, a_rewardScript, a_blockSize, a_blockTransaction, lb0, S.1, S.2.1, S.2.2, pl', mk, q0)) → wpX_admit post (ss0, nI made, f_putCount, f_blocks, nI tp, nI np, qc0, a_tokenCount, a_tokenOp, a_tokenValue, a_scriptInUse, st0, a_inputCount, a_inputCoin, a_inputA, a_inputB, a_outputCount, a_outputAmount, a_outputScript, a_feeOf, a_putRow, a_parentOf, a_heightOf, a_chainWork, a_blockState, a_rewardAmount, a_rewardScript, a_blockSize, a_blockTransaction, lb0, S.1, S.2.1, S.2.2, pl, mk0, q0) x rep)
      ∧ (∀ (post : Int32 → SY → Prop) (cl0 : Int32) (st0 wo0 ch0 ag0 : Nat → Int32), pd_wor (b_length, b_op, b_arg, b_ins, b_inCoin, b_inA, b_inB, b_outs, b_amount, b_lock, b_parent, b_height, b_rewardLock, b_many, b_holds, gfe, grw) S.1 wo0 → (∀ st, post r (nI made, g_blocks, g_arrivals, nI tp, nI np', cl0, b_op, b_arg, b_length, b_ins, b_inCoin, b_inA, b_inB, b_outs, b_amount, b_lock, b_parent, b_work, b_rewardLock, b_height, b_many, b_holds, b_delivered, b_arrived, pl', ch0, S.1, wo0, S.2.2, S.2.1, st, ag0, b_chosen)) → wpY_take post (nI made, g_blocks, g_arrivals, nI tp, nI np, cl0, b_op, b_arg, b_length, b_ins, b_inCoin, b_inA, b_inB, b_outs, b_amount, b_lock, b_parent, b_work, b_rewardLock, b_height, b_many, b_holds, b_delivered, b_arrived, pl, ch0, S.1, wo0, S.2.2, S.2.1, st0, ag0, b_chosen) x rep) := by
  have hm := w.2.2.1
  have hbk := w.2.1
  have hnp := P.1
  have hp := pd_pool_pl P
  rcases pk_ix x (n := made) (by omega) with hx | hx | ⟨t, ht, rfl⟩
  · exact ⟨-2, pl, np, P, fun post ss0 qc0 st0 mk0 lb0 q0 h => br_t hx (br_t rfl (h _ _ _)), fun post cl0 st0 wo0 ch0 ag0 wr h => br_t hx (br_t rfl (h _))⟩
  · have hx0 : ¬ x < 0 := Int32.not_lt.mpr (Int32.le_trans (nI_pos' (by omega)) hx)
    exact ⟨-2, pl, np, P, fun post ss0 qc0 st0 mk0 lb0 q0 h => br_f hx0 (br_t hx (br_t rfl (h _ _ _))), fun post cl0 st0 wo0 ch0 ag0 wr h => br_f hx0 (br_t hx (br_t rfl (h _)))⟩
  have hx0 : ¬ nI t < 0 := nI_pos (by omega)
  have hx1 : ¬ nI made ≤ nI t := nI_ge ht (by omega)
  have ect : (nI t).toNatClampNeg = t := pk_cl t
  by_cases hth : 0 ≤ S.2.2 t
  · refine ⟨-2, pl, np, P, fun post ss0 qc0 st0 mk0 lb0 q0 h => br_f hx0 (br_f hx1 (br_f (by decide) ⟨pk_in t 40 (by omega), ?_⟩)), fun post cl0 st0 wo0 ch0 ag0 wr h => br_f hx0 (br_f hx1 (br_f (by decide) ⟨pk_in t 40 (by omega), ?_⟩))⟩
    · rw [ect]; exact br_t hth (h _ _ _)
    · rw [ect]; exact br_t hth (h _)
  have hth' : S.2.2 t < 0 := Int32.not_le.mp hth
  by_cases hin : ∃ k, k < np ∧ pl k = nI t
  · refine ⟨-2, pl, np, P, fun post ss0 qc0 st0 mk0 lb0 q0 h => br_f hx0 (br_f hx1 (br_f (by decide) ⟨pk_in t 40 (by omega), ?_⟩)), fun post cl0 st0 wo0 ch0 ag0 wr h => br_f hx0 (br_f hx1 (br_f (by decide) ⟨pk_in t 40 (by omega), ?_⟩))⟩
    · rw [ect]; exact br_f hth (xm_inPool hnp rfl (fun _ => br_f (by decide) (h _ _ _)) (fun q => (q hin).elim))
    · rw [ect]; exact br_f hth (yq_pooled hnp rfl (fun _ => br_f (by decide) (h _)) (fun q => (q hin).elim))
  -- the pool's coins are below 120 and not spent
  have hPc : ∀ c, c < 152 → (∃ k, k < np ∧ pl k = nI (c / 3)) → c < 120 ∧ S.2.1 c = 0 := by
    intro c hc ⟨k, k1, k2⟩
    obtain ⟨u, p1, p2, p3, _⟩ := P.2 k k1
    rw [k2, nI_eq (by omega) (by omega)] at p2
    have h120 : c < 120 := by omega
    refine ⟨h120, ?_⟩
    rcases Classical.em (S.2.1 c = 0) with e | e
    · exact e
    · have := I.2.2.2.2.1 c h120 (sp c hc e)
      rw [p2] at this
      exact absurd this (Int32.not_le.mpr p3)
  have ehc : a_heightOf (nI tp).toNatClampNeg + 1 = nI (n + 1) := by rw [pk_cl tp, eh, nI_1]
  have hmay := pd_ag_may (h := nI (n + 1)) (S := S) (P := fun c => ∃ k, k < np ∧ pl k = nI (c / 3)) w ag ht
  by_cases hM : pd_may (a_tokenCount, a_tokenOp, a_tokenValue, a_inputCount, a_inputCoin, a_inputA, a_inputB, a_outputCount, a_outputAmount, a_outputScript, a_parentOf, a_heightOf, a_rewardScript, a_blockSize, a_blockTransaction, a_feeOf, a_rewardAmount) S (nI (n + 1)) (fun c => ∃ k, k < np ∧ pl k = nI (c / 3)) t
  rotate_left
  · refine ⟨-3, pl, np, P, fun post ss0 qc0 st0 mk0 lb0 q0 h => br_f hx0 (br_f hx1 (br_f (by decide) ⟨pk_in t 40 (by omega), ?_⟩)), fun post cl0 st0 wo0 ch0 ag0 wr h => br_f hx0 (br_f hx1 (br_f (by decide) ⟨pk_in t 40 (by omega), ?_⟩))⟩
    · rw [ect, ehc]
      exact br_f hth (xm_inPool hnp rfl (fun q => (hin q).elim) (fun _ => br_t rfl ⟨pk_in tp 32 (by omega), xm_may w tk ht hnp rfl _ (fun z => absurd z (by decide)) (fun _ c _ => Iff.rfl) (fun q => (hM q).elim) (fun _ ss st => br_t rfl (h _ _ _))⟩))
    · rw [ect]
      exact br_f hth (yq_pooled hnp rfl (fun q => (hin q).elim) (fun _ => br_t rfl (ym_isLate wE tkE fq ht hnp rfl rfl (by omega) eh' hn rg wr hPc (fun q => (hM (hmay.mp q)).elim) (fun _ st => br_f (by decide) (h _)))))
  -- it may come in, if its rivals let it
  obtain ⟨mk, hms⟩ := pd_ms_ex (a_tokenCount, a_tokenOp, a_tokenValue, a_inputCount, a_inputCoin, a_inputA, a_inputB, a_outputCount, a_outputAmount, a_outputScript, a_parentOf, a_heightOf, a_rewardScript, a_blockSize, a_blockTransaction, a_feeOf, a_rewardAmount) pl t np
  have hmsE := pd_ms_ag w ag ht hp hms
  have h01 : ∀ k, k < np → mk k = 0 ∨ mk k = 1 := fun k hk => (hms k hk).1
  have topo : ∀ i j, i < np → j < np → pd_needs (b_length, b_op, b_arg, b_ins, b_inCoin, b_inA, b_inB, b_outs, b_amount, b_lock, b_parent, b_height, b_rewardLock, b_many, b_holds, gfe, grw) (pl i).toNatClampNeg (pl j).toNatClampNeg → j < i := by
    intro i j hi hj q
    obtain ⟨u, hu, eu⟩ := hp i hi
    have euc := pd_cl eu (by omega)
    refine pd_pool_topo hm I P hi hj ?_
    rw [euc] at q ⊢
    exact (pd_ag_needs ag hu).mp q
  have hwt : ∀ wo0, pd_wor (b_length, b_op, b_arg, b_ins, b_inCoin, b_inA, b_inB, b_outs, b_amount, b_lock, b_parent, b_height, b_rewardLock, b_many, b_holds, gfe, grw) S.1 wo0 → ∀ i, i < (pd_ic (b_length, b_op, b_arg, b_ins, b_inCoin, b_inA, b_inB, b_outs, b_amount, b_lock, b_parent, b_height, b_rewardLock, b_many, b_holds, gfe, grw) t).toNatClampNeg → 120 ≤ (b_inCoin (3 * t + i)).toNatClampNeg → wo0 (b_inCoin (3 * t + i)).toNatClampNeg = grw ((b_inCoin (3 * t + i)).toNatClampNeg - 120) := by
    intro wo0 wr i hi h120
    have q := (hmay.mpr hM).1 i hi
    obtain ⟨c, hc1, _, ecc, _⟩ := pd_wf_co wE ht hi
    have ecc' : (b_inCoin (3 * t + i)).toNatClampNeg = c := ecc
    rw [ecc'] at h120 ⊢
    rw [ecc, pd_from_f (fun q => by have := (hPc c hc1 q).1; omega)] at q
    rw [wr c hc1 q.1]
    exact if_neg (by omega)
  have hw : ∀ wo0, pd_wor (b_length, b_op, b_arg, b_ins, b_inCoin, b_inA, b_inB, b_outs, b_amount, b_lock, b_parent, b_height, b_rewardLock, b_many, b_holds, gfe, grw) S.1 wo0 → ∀ k, k < np → ∀ i, i < (pd_ic (b_length, b_op, b_arg, b_ins, b_inCoin, b_inA, b_inB, b_outs, b_amount, b_lock, b_parent, b_height, b_rewardLock, b_many, b_holds, gfe, grw) (pl k).toNatClampNeg).toNatClampNeg → 120 ≤ (b_inCoin (3 * (pl k).toNatClampNeg + i)).toNatClampNeg → wo0 (b_inCoin (3 * (pl k).toNatClampNeg + i)).toNatClampNeg = grw ((b_inCoin (3 * (pl k).toNatClampNeg + i)).toNatClampNeg - 120) := by
    intro wo0 wr k hk i hi h120
    obtain ⟨u, p1, p2, p3, p4, p5⟩ := P.2 k hk
    have euc := pd_cl p2 (by omega)
    rw [euc] at hi h120 ⊢
    obtain ⟨a1, _, _, a4, _⟩ := ag.1 u p1
    rw [a1] at hi
    have eco : b_inCoin (3 * u + i) = a_inputCoin (3 * u + i) := (a4 i hi).1
    obtain ⟨c, hc1, _, ecc, _⟩ := pd_wf_co w p1 hi
    have ecc' : (a_inputCoin (3 * u + i)).toNatClampNeg = c := ecc
    have q := p4 i hi
    rw [ecc] at q
    rw [eco, ecc'] at h120 ⊢
    rcases q with q | q
    · rw [wr c hc1 q.1]
      exact if_neg (by omega)
    · omega
  have efe : gfe t = a_feeOf t := (ag.1 t ht).2.2.1
  have emf : pd_mf mk gfe pl np = pd_mf mk a_feeOf pl np := pd_mf_eq np (fun _ _ => rfl) (fun k hk => by
    obtain ⟨u, hu, eu⟩ := hp k hk
    rw [pd_cl eu (by omega)]
    exact (ag.1 u hu).2.2.1)
  have hnd : ∀ k, k < np → (pd_needs (b_length, b_op, b_arg, b_ins, b_inCoin, b_inA, b_inB, b_outs, b_amount, b_lock, b_parent, b_height, b_rewardLock, b_many, b_holds, gfe, grw) t (pl k).toNatClampNeg ↔ pd_needs (a_tokenCount, a_tokenOp, a_tokenValue, a_inputCount, a_inputCoin, a_inputA, a_inputB, a_outputCount, a_outputAmount, a_outputScript, a_parentOf, a_heightOf, a_rewardScript, a_blockSize, a_blockTransaction, a_feeOf, a_rewardAmount) t (pl k).toNatClampNeg) := fun k _ => pd_ag_needs ag ht
  -- X up to the rivals, Y up to the rivals
  have goX : ∀ (post : Int32 → SX → Prop) (ss0 qc0 : Int32) (st0 mk0 lb0 q0 : Nat → Int32), (∀ (mk' : Nat → Int32) (any : Int32) (ss : Int32) (st : Nat → Int32), (∀ k, k < np → mk' k = mk k) → ((any = 0 ∧ ∀ k, k < np → mk k = 0) ∨ (any = 1 ∧ ∃ k, k < np ∧ mk k = 1)) →
      (((any = 0 → (wX_admit_94 post (nI t) ss (nI made) f_putCount f_blocks (nI tp) (nI np) qc0 a_tokenCount a_tokenOp a_tokenValue a_scriptInUse st a_inputCount a_inputCoin a_inputA a_inputB a_outputCount a_outputAmount a_outputScript a_feeOf a_putRow a_parentOf a_heightOf a_chainWork a_blockState a_rewardAmount a_rewardScript a_blockSize a_blockTransaction lb0 S.1 S.2.1 S.2.2 pl mk' q0)) ∧ (¬ any = 0 → (wpX_hasMarkedOutput (fun r_160 => (((r_160 = 0 → (((rep = 0 → (post (-4) (ss, nI made, f_putCount, f_blocks, nI tp, nI np, qc0, a_tokenCount, a_tokenOp, a_tokenValue, a_scriptInUse, st, a_inputCount, a_inputCoin, a_inputA, a_inputB, a_outputCount, a_outputAmount, a_outputScript, a_feeOf, a_putRow, a_parentOf, a_heightOf, a_chainWork, a_blockState, a_rewardAmount, a_rewardScript, a_blockSize, a_blockTransaction, lb0, S.1, S.2.1, S.2.2, pl, mk', q0))) ∧ (¬ rep = 0 → (vp_in (nI t) 40 ∧ (wpX_markedFees (fun r_200 => (((r_200 < (a_feeOf (nI t).toNatClampNeg) → (wpX_removeMarked (fun u => match u with | (f_stackSize, f_transactions, f_putCount, f_blocks, f_tip, f_poolCount, f_queueCount, a_tokenCount, a_tokenOp, a_tokenValue, a_scriptInUse, a_stack, a_inputCount, a_inputCoin, a_inputA, a_inputB, a_outputCount, a_outputAmount, a_outputScript, a_feeOf, a_putRow, a_parentOf, a_heightOf, a_chainWork, a_blockState, a_rewardAmount, a_rewardScript, a_blockSize, a_blockTransaction, a_laidBlock, a_coinHeight, a_coinSpent, a_transactionHeight, a_poolRow, a_marked, a_queue) => (wX_admit_94 post (nI t) f_stackSize f_transactions f_putCount f_blocks f_tip f_poolCount f_queueCount a_tokenCount a_tokenOp a_tokenValue a_scriptInUse a_stack a_inputCount a_inputCoin a_inputA a_inputB a_outputCount a_outputAmount a_outputScript a_feeOf a_putRow a_parentOf a_heightOf a_chainWork a_blockState a_rewardAmount a_rewardScript a_blockSize a_blockTransaction a_laidBlock a_coinHeight a_coinSpent a_transactionHeight a_poolRow a_marked a_queue)) (ss, nI made, f_putCount, f_blocks, nI tp, nI np, qc0, a_tokenCount, a_tokenOp, a_tokenValue, a_scriptInUse, st, a_inputCount, a_inputCoin, a_inputA, a_inputB, a_outputCount, a_outputAmount, a_outputScript, a_feeOf, a_putRow, a_parentOf, a_heightOf, a_chainWork, a_blockState, a_rewardAmount, a_rewardScript, a_blockSize, a_blockTransaction, lb0, S.1, S.2.1, S.2.2, pl, mk', q0))) ∧ (¬ r_200 < (a_feeOf (nI t).toNatClampNeg) → (post (-4) (ss, nI made, f_putCount, f_blocks, nI tp, nI np, qc0, a_tokenCount, a_tokenOp, a_tokenValue, a_scriptInUse, st, a_inputCount, a_inputCoin, a_inputA, a_inputB, a_outputCount, a_outputAmount, a_outputScript, a_feeOf, a_putRow, a_parentOf, a_heightOf, a_chainWork, a_blockState, a_rewardAmount, a_rewardScript, a_blockSize, a_blockTransaction, lb0, S.1, S.2.1, S.2.2, pl, mk', q0)))))) (ss, nI made, f_putCount, f_blocks, nI tp, nI np, qc0, a_tokenCount, a_tokenOp, a_tokenValue, a_scriptInUse, st, a_inputCount, a_inputCoin, a_inputA, a_inputB, a_outputCount, a_outputAmount, a_outputScript, a_feeOf, a_putRow, a_parentOf, a_heightOf, a_chainWork, a_blockState, a_rewardAmount, a_rewardScript, a_blockSize, a_blockTransaction, lb0, S.1, S.2.1, S.2.2, pl, mk', q0))))))) ∧ (¬ r_160 = 0 → (post (-3) (ss, nI made, f_putCount, f_blocks, nI tp, nI np, qc0, a_tokenCount, a_tokenOp, a_tokenValue, a_scriptInUse, st, a_inputCount, a_inputCoin, a_inputA, a_inputB, a_outputCount, a_outputAmount, a_outputScript, a_feeOf, a_putRow, a_parentOf, a_heightOf, a_chainWork, a_blockState, a_rewardAmount, a_rewardScript, a_blockSize, a_blockTransaction, lb0, S.1, S.2.1, S.2.2, pl, mk', q0)))))) (ss, nI made, f_putCount, f_blocks, nI tp, nI np, qc0, a_tokenCount, a_tokenOp, a_tokenValue, a_scriptInUse, st, a_inputCount, a_inputCoin, a_inputA, a_inputB, a_outputCount, a_outputAmount, a_outputScript, a_feeOf, a_putRow, a_parentOf, a_heightOf, a_chainWork, a_blockState, a_rewardAmount, a_rewardScript, a_blockSize, a_blockTransaction, lb0, S.1, S.2.1, S.2.2, pl, mk', q0) (nI t)))))) → wpX_admit post (ss0, nI made, f_putCount, f_blocks, nI tp, nI np, qc0, a_tokenCount, a_tokenOp, a_tokenValue, a_scriptInUse, st0, a_inputCount, a_inputCoin, a_inputA, a_inputB, a_outputCount, a_outputAmount, a_outputScript, a_feeOf, a_putRow, a_parentOf, a_heightOf, a_chainWork, a_blockState, a_rewardAmount, a_rewardScript, a_blockSize, a_blockTransaction, lb0, S.1, S.2.1, S.2.2, pl, mk0, q0) (nI t) rep := by
    intro post ss0 qc0 st0 mk0 lb0 q0 h
    refine br_f hx0 (br_f hx1 (br_f (by decide) ⟨pk_in t 40 (by omega), ?_⟩))
    rw [ect, ehc]
    refine br_f hth (xm_inPool hnp rfl (fun q => (hin q).elim) (fun _ => br_t rfl ⟨pk_in tp 32 (by omega), xm_may w tk ht hnp rfl _ (fun z => absurd z (by decide)) (fun _ c _ => Iff.rfl) (fun _ ss st => br_f (by decide) ?_) (fun q => (q hM).elim)⟩))
    refine xm_marks w ht hnp rfl hp fun mk' any hms' hany => ?_
    have hu := pd_ms_uniq hms' hms
    have hany' : (any = 0 ∧ ∀ k, k < np → mk k = 0) ∨ (any = 1 ∧ ∃ k, k < np ∧ mk k = 1) := by
      rcases hany with ⟨e, h1⟩ | ⟨e, k, k1, k2⟩
      · exact Or.inl ⟨e, fun k hk => by rw [← hu k hk]; exact h1 k hk⟩
      · exact Or.inr ⟨e, k, k1, by rw [← hu k k1]; exact k2⟩
    have := h mk' any ss st hu hany'
    rw [ect] at this
    exact this
  have goY : ∀ (post : Int32 → SY → Prop) (cl0 : Int32) (st0 wo0 ch0 ag0 : Nat → Int32), pd_wor (b_length, b_op, b_arg, b_ins, b_inCoin, b_inA, b_inB, b_outs, b_amount, b_lock, b_parent, b_height, b_rewardLock, b_many, b_holds, gfe, grw) S.1 wo0 → (∀ (s : Int32) (st : Nat → Int32), (∀ k, k < 32 → (bt s k = true ↔ (k < np ∧ mk k = 1))) → ∃ fuel, wY_take_54 post (nI t) rep s (nI made) g_blocks g_arrivals (nI tp) (nI np) cl0 b_op b_arg b_length b_ins b_inCoin b_inA b_inB b_outs b_amount b_lock b_parent b_work b_rewardLock b_height b_many b_holds b_delivered b_arrived pl ch0 S.1 wo0 S.2.2 S.2.1 st ag0 b_chosen fuel 0 0) → wpY_take post (nI made, g_blocks, g_arrivals, nI tp, nI np, cl0, b_op, b_arg, b_length, b_ins, b_inCoin, b_inA, b_inB, b_outs, b_amount, b_lock, b_parent, b_work, b_rewardLock, b_height, b_many, b_holds, b_delivered, b_arrived, pl, ch0, S.1, wo0, S.2.2, S.2.1, st0, ag0, b_chosen) (nI t) rep := by
    intro post cl0 st0 wo0 ch0 ag0 wr h
    refine br_f hx0 (br_f hx1 (br_f (by decide) ⟨pk_in t 40 (by omega), ?_⟩))
    rw [ect]
    refine br_f hth (yq_pooled hnp rfl (fun q => (hin q).elim) (fun _ => br_t rfl (ym_isLate wE tkE fq ht hnp rfl rfl (by omega) eh' hn rg wr hPc (fun _ st => br_t rfl ?_) (fun q => (q (hmay.mpr hM)).elim))))
    exact ym_rivals wE ht hnp rfl hp hmsE topo fun s hs => h s st hs
  by_cases hL : ∃ k, k < np ∧ mk k = 1 ∧ pd_needs (a_tokenCount, a_tokenOp, a_tokenValue, a_inputCount, a_inputCoin, a_inputA, a_inputB, a_outputCount, a_outputAmount, a_outputScript, a_parentOf, a_heightOf, a_rewardScript, a_blockSize, a_blockTransaction, a_feeOf, a_rewardAmount) t (pl k).toNatClampNeg
  · -- it needs an output of a rival
    refine ⟨-3, pl, np, P, fun post ss0 qc0 st0 mk0 lb0 q0 h => goX post ss0 qc0 st0 mk0 lb0 q0 fun mk' any ss st hu hany => ?_, fun post cl0 st0 wo0 ch0 ag0 wr h => goY post cl0 st0 wo0 ch0 ag0 wr fun s st hs => ?_⟩
    · obtain ⟨k, k1, k2, k3⟩ := hL
      have hne : ¬ any = 0 := by
        rcases hany with ⟨_, q⟩ | ⟨e, _⟩
        · rw [q k k1] at k2; exact absurd k2 (by decide)
        · rw [e]; decide
      refine br_f hne (xm_hasMarked w ht hnp rfl hp (fun _ => br_f (by decide) (h _ _ _)) (fun q => (q ⟨k, k1, ?_, k3⟩).elim))
      rw [hu k k1, k2]; decide
    · refine ym_tk54 wE fq ht hnp hp h01 hs (hwt wo0 wr) (hw wo0 wr) (fun _ => h _) (fun q => ?_) (fun q => ?_)
      · obtain ⟨k, k1, k2, k3⟩ := hL
        exact (q ⟨k, k1, k2, (hnd k k1).mpr k3⟩).elim
      · obtain ⟨k, k1, k2, k3⟩ := hL
        exact (q ⟨k, k1, k2, (hnd k k1).mpr k3⟩).elim
  have hLY : ¬ ∃ k, k < np ∧ mk k = 1 ∧ pd_needs (b_length, b_op, b_arg, b_ins, b_inCoin, b_inA, b_inB, b_outs, b_amount, b_lock, b_parent, b_height, b_rewardLock, b_many, b_holds, gfe, grw) t (pl k).toNatClampNeg := fun ⟨k, k1, k2, k3⟩ => hL ⟨k, k1, k2, (hnd k k1).mp k3⟩
  by_cases hC : (∃ k, k < np ∧ mk k = 1) ∧ (rep = 0 ∨ a_feeOf t ≤ pd_mf mk a_feeOf pl np)
  · -- too cheap
    obtain ⟨hex, hch⟩ := hC
    have hne0 : ¬ ∀ k, k < np → mk k = 0 := fun q => by
      obtain ⟨k, k1, k2⟩ := hex
      rw [q k k1] at k2; exact absurd k2 (by decide)
    refine ⟨-4, pl, np, P, fun post ss0 qc0 st0 mk0 lb0 q0 h => goX post ss0 qc0 st0 mk0 lb0 q0 fun mk' any ss st hu hany => ?_, fun post cl0 st0 wo0 ch0 ag0 wr h => goY post cl0 st0 wo0 ch0 ag0 wr fun s st hs => ?_⟩
    · have hne : ¬ any = 0 := by
        rcases hany with ⟨_, q⟩ | ⟨e, _⟩
        · exact (hne0 q).elim
        · rw [e]; decide
      refine br_f hne (xm_hasMarked w ht hnp rfl hp (fun q => ?_) (fun _ => br_t rfl (br_c (fun _ => h _ _ _) (fun z => ⟨pk_in t 40 (by omega), xm_markedFees hm hnp rfl hp ?_⟩))))
      · obtain ⟨j, j1, j2, j3⟩ := q
        rw [hu j j1] at j2
        rcases h01 j j1 with e | e
        · exact (j2 e).elim
        · exact (hL ⟨j, j1, e, j3⟩).elim
      · have hle : a_feeOf t ≤ pd_mf mk a_feeOf pl np := by
          rcases hch with q | q
          · exact (z q).elim
          · exact q
        rw [ect, pd_mf_eq np hu (fun _ _ => rfl)]
        exact br_f (Int32.not_lt.mpr hle) (h _ _ _)
    · refine ym_tk54 wE fq ht hnp hp h01 hs (hwt wo0 wr) (hw wo0 wr) (fun q => (hLY q).elim) (fun _ _ _ => h _) (fun _ q => ?_)
      rcases q with q | ⟨q1, q2⟩
      · exact (hne0 q).elim
      · rcases hch with z | z
        · exact (q1 z).elim
        · rw [emf, efe] at q2
          exact absurd q2 (Int32.not_lt.mpr z)
  -- it comes in, or finds no room
  have hgo : (∀ k, k < np → mk k = 0) ∨ (¬ rep = 0 ∧ pd_mf mk a_feeOf pl np < a_feeOf t) := by
    rcases Classical.em (∃ k, k < np ∧ mk k = 1) with h | h
    · right
      refine ⟨fun z => hC ⟨h, Or.inl z⟩, ?_⟩
      rcases Classical.em (pd_mf mk a_feeOf pl np < a_feeOf t) with z | z
      · exact z
      · exact (hC ⟨h, Or.inr (Int32.not_lt.mp z)⟩).elim
    · left
      intro k hk
      rcases h01 k hk with e | e
      · exact e
      · exact (h ⟨k, hk, e⟩).elim
  have Prm := pd_pool_rm hm P hms
  have h12 := Prm.1
  have X94 : ∀ (post : Int32 → SX → Prop) (ss : Int32) (st mk' : Nat → Int32) (qc0 : Int32) (lb0 q0 : Nat → Int32), ((pd_rm mk pl np).2 = 12 → post (-5) (ss, nI made, f_putCount, f_blocks, nI tp, nI (pd_rm mk pl np).2, qc0, a_tokenCount, a_tokenOp, a_tokenValue, a_scriptInUse, st, a_inputCount, a_inputCoin, a_inputA, a_inputB, a_outputCount, a_outputAmount, a_outputScript, a_feeOf, a_putRow, a_parentOf, a_heightOf, a_chainWork, a_blockState, a_rewardAmount, a_rewardScript, a_blockSize, a_blockTransaction, lb0, S.1, S.2.1, S.2.2, (pd_rm mk pl np).1, mk', q0)) →
      ((pd_rm mk pl np).2 < 12 → post (nI ((pd_rm mk pl np).2 + 1)) (ss, nI made, f_putCount, f_blocks, nI tp, nI ((pd_rm mk pl np).2 + 1), qc0, a_tokenCount, a_tokenOp, a_tokenValue, a_scriptInUse, st, a_inputCount, a_inputCoin, a_inputA, a_inputB, a_outputCount, a_outputAmount, a_outputScript, a_feeOf, a_putRow, a_parentOf, a_heightOf, a_chainWork, a_blockState, a_rewardAmount, a_rewardScript, a_blockSize, a_blockTransaction, lb0, S.1, S.2.1, S.2.2, upd (pd_rm mk pl np).1 (pd_rm mk pl np).2 (nI t), mk', q0)) →
      wX_admit_94 post (nI t) ss (nI made) f_putCount f_blocks (nI tp) (nI (pd_rm mk pl np).2) qc0 a_tokenCount a_tokenOp a_tokenValue a_scriptInUse st a_inputCount a_inputCoin a_inputA a_inputB a_outputCount a_outputAmount a_outputScript a_feeOf a_putRow a_parentOf a_heightOf a_chainWork a_blockState a_rewardAmount a_rewardScript a_blockSize a_blockTransaction lb0 S.1 S.2.1 S.2.2 ((pd_rm mk pl np).1) mk' q0 := by
    intro post ss st mk' qc0 lb0 q0 h5 h1
    exact pk_eq (pd_rm mk pl np).2 12 (fun e => h5 e) (fun e => ⟨pk_in (pd_rm mk pl np).2 12 (by omega), nm_r (by rw [pk_cl (pd_rm mk pl np).2]) (nm_r (nI_1 _) (h1 (by omega)))⟩)
  have goX2 : ∀ (post : Int32 → SX → Prop) (ss0 qc0 : Int32) (st0 mk0 lb0 q0 : Nat → Int32), (∀ (ss : Int32) (st mk' : Nat → Int32), wX_admit_94 post (nI t) ss (nI made) f_putCount f_blocks (nI tp) (nI (pd_rm mk pl np).2) qc0 a_tokenCount a_tokenOp a_tokenValue a_scriptInUse st a_inputCount a_inputCoin a_inputA a_inputB a_outputCount a_outputAmount a_outputScript a_feeOf a_putRow a_parentOf a_heightOf a_chainWork a_blockState a_rewardAmount a_rewardScript a_blockSize a_blockTransaction lb0 S.1 S.2.1 S.2.2 ((pd_rm mk pl np).1) mk' q0) → wpX_admit post (ss0, nI made, f_putCount, f_blocks, nI tp, nI np, qc0, a_tokenCount, a_tokenOp, a_tokenValue, a_scriptInUse, st0, a_inputCount, a_inputCoin, a_inputA, a_inputB, a_outputCount, a_outputAmount, a_outputScript, a_feeOf, a_putRow, a_parentOf, a_heightOf, a_chainWork, a_blockState, a_rewardAmount, a_rewardScript, a_blockSize, a_blockTransaction, lb0, S.1, S.2.1, S.2.2, pl, mk0, q0) (nI t) rep := by
    intro post ss0 qc0 st0 mk0 lb0 q0 h
    refine goX post ss0 qc0 st0 mk0 lb0 q0 fun mk' any ss st hu hany => ?_
    rcases hany with ⟨e, q⟩ | ⟨e, hex⟩
    · have h' := h ss st mk'
      rw [pd_rm_none np q] at h'
      exact br_t e h'
    · have hne0 : ¬ ∀ k, k < np → mk k = 0 := fun q => by
        obtain ⟨k, k1, k2⟩ := hex
        rw [q k k1] at k2; exact absurd k2 (by decide)
      obtain ⟨g1, g2⟩ := hgo.resolve_left hne0
      refine br_f (by rw [e]; decide) (xm_hasMarked w ht hnp rfl hp (fun q => ?_) (fun _ => br_t rfl (br_f g1 ⟨pk_in t 40 (by omega), xm_markedFees hm hnp rfl hp ?_⟩)))
      · obtain ⟨j, j1, j2, j3⟩ := q
        rw [hu j j1] at j2
        rcases h01 j j1 with e | e
        · exact (j2 e).elim
        · exact (hL ⟨j, j1, e, j3⟩).elim
      · rw [ect, pd_mf_eq np hu (fun _ _ => rfl)]
        refine br_t g2 (xm_remove hnp rfl ?_)
        have h' := h ss st mk'
        rw [← pd_rm_eq np hu] at h'
        exact h'
  have goY2 : ∀ (post : Int32 → SY → Prop) (cl0 : Int32) (st0 wo0 ch0 ag0 : Nat → Int32), pd_wor (b_length, b_op, b_arg, b_ins, b_inCoin, b_inA, b_inB, b_outs, b_amount, b_lock, b_parent, b_height, b_rewardLock, b_many, b_holds, gfe, grw) S.1 wo0 → ((pd_rm mk pl np).2 = 12 → ∀ st, post (-5) (nI made, g_blocks, g_arrivals, nI tp, nI (pd_rm mk pl np).2, cl0, b_op, b_arg, b_length, b_ins, b_inCoin, b_inA, b_inB, b_outs, b_amount, b_lock, b_parent, b_work, b_rewardLock, b_height, b_many, b_holds, b_delivered, b_arrived, (pd_rm mk pl np).1, ch0, S.1, wo0, S.2.2, S.2.1, st, ag0, b_chosen)) →
      ((pd_rm mk pl np).2 < 12 → ∀ st, post (nI ((pd_rm mk pl np).2 + 1)) (nI made, g_blocks, g_arrivals, nI tp, nI ((pd_rm mk pl np).2 + 1), cl0, b_op, b_arg, b_length, b_ins, b_inCoin, b_inA, b_inB, b_outs, b_amount, b_lock, b_parent, b_work, b_rewardLock, b_height, b_many, b_holds, b_delivered, b_arrived, upd (pd_rm mk pl np).1 (pd_rm mk pl np).2 (nI t), ch0, S.1, wo0, S.2.2, S.2.1, st, ag0, b_chosen)) → wpY_take post (nI made, g_blocks, g_arrivals, nI tp, nI np, cl0, b_op, b_arg, b_length, b_ins, b_inCoin, b_inA, b_inB, b_outs, b_amount, b_lock, b_parent, b_work, b_rewardLock, b_height, b_many, b_holds, b_delivered, b_arrived, pl, ch0, S.1, wo0, S.2.2, S.2.1, st0, ag0, b_chosen) (nI t) rep := by
    intro post cl0 st0 wo0 ch0 ag0 wr h5 h1
    refine goY post cl0 st0 wo0 ch0 ag0 wr fun s st hs => ym_tk54 wE fq ht hnp hp h01 hs (hwt wo0 wr) (hw wo0 wr) (fun q => (hLY q).elim) (fun _ hex q => ?_) (fun _ _ => ym_tk142 hnp h01 hs (fun e => h5 e st) (fun e => h1 e st))
    rw [emf, efe] at q
    exact (hC ⟨hex, q⟩).elim
  by_cases e12 : (pd_rm mk pl np).2 = 12
  · exact ⟨-5, (pd_rm mk pl np).1, (pd_rm mk pl np).2, Prm, fun post ss0 qc0 st0 mk0 lb0 q0 h => goX2 post ss0 qc0 st0 mk0 lb0 q0 fun ss st mk' => X94 post ss st mk' qc0 lb0 q0 (fun _ => h _ _ _) (fun z => by omega), fun post cl0 st0 wo0 ch0 ag0 wr h => goY2 post cl0 st0 wo0 ch0 ag0 wr (fun _ st => h st) (fun z => by omega)⟩
  · refine ⟨nI ((pd_rm mk pl np).2 + 1), upd (pd_rm mk pl np).1 (pd_rm mk pl np).2 (nI t), (pd_rm mk pl np).2 + 1, ?_, fun post ss0 qc0 st0 mk0 lb0 q0 h => goX2 post ss0 qc0 st0 mk0 lb0 q0 fun ss st mk' => X94 post ss st mk' qc0 lb0 q0 (fun z => (e12 z).elim) (fun _ => h _ _ _), fun post cl0 st0 wo0 ch0 ag0 wr h => goY2 post cl0 st0 wo0 ch0 ag0 wr (fun z => (e12 z).elim) (fun _ st => h st)⟩
    obtain ⟨f, f1, f2, f3, f4⟩ := pd_rm_sub mk pl np
    refine pd_pool_app Prm (by omega) ht hth' (fun j hj q => ?_) (fun i hi => ?_)
    · obtain ⟨z1, z2, z3⟩ := f1 j hj
      exact hin ⟨f j, z1, by rw [← z3]; exact q⟩
    · have q := hM.1 i hi
      obtain ⟨c, hc1, _, ecc, _⟩ := pd_wf_co w ht hi
      rw [ecc] at q ⊢
      by_cases hpc : ∃ k, k < np ∧ pl k = nI (c / 3)
      · right
        refine ⟨(hPc c hc1 hpc).1, ?_⟩
        obtain ⟨k, k1, k2⟩ := hpc
        have hk0 : mk k = 0 := by
          rcases h01 k k1 with e | e
          · exact e
          · refine (hL ⟨k, k1, e, i, hi, ?_⟩).elim
            rw [ecc, k2]
            exact ⟨(hPc c hc1 ⟨k, k1, k2⟩).1, (pk_cl (c / 3)).symm⟩
        obtain ⟨j, j1, j2⟩ := f3 k k1 hk0
        exact ⟨j, j1, by rw [(f1 j j1).2.2, j2]; exact k2⟩
      · left
        rw [pd_from_f hpc] at q
        unfold pd_okG at q
        rw [ecc] at q
        exact ⟨q.1, q.2.1⟩
end
