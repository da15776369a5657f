/-! deliver's way up against the reference's repeated search -/
section
variable {f_stackSize f_transactions f_putCount f_blocks f_tip f_poolCount f_queueCount : Int32} {a_tokenCount a_tokenOp a_tokenValue a_scriptInUse a_stack a_inputCount a_inputCoin a_inputA a_inputB a_outputCount a_outputAmount a_outputScript a_feeOf a_putRow a_parentOf a_heightOf a_chainWork a_blockState a_rewardAmount a_rewardScript a_blockSize a_blockTransaction a_laidBlock a_coinHeight a_coinSpent a_transactionHeight a_poolRow a_marked a_queue : Nat → Int32}
variable {g_made g_blocks g_arrivals g_tip g_pooled g_chainLength : Int32} {b_op b_arg b_length b_ins b_inCoin b_inA b_inB b_outs b_amount b_lock b_parent b_work b_rewardLock b_height b_many b_holds b_delivered b_arrived b_pool b_chain b_from b_worth b_within b_spent b_stack b_again b_chosen gfe grw : Nat → Int32}
theorem dv_loop {made blocks : Nat} (w : pd_wf (a_tokenCount, a_tokenOp, a_tokenValue, a_inputCount, a_inputCoin, a_inputA, a_inputB, a_outputCount, a_outputAmount, a_outputScript, a_parentOf, a_heightOf, a_rewardScript, a_blockSize, a_blockTransaction, a_feeOf, a_rewardAmount) made blocks) (ag : pd_ag (a_tokenCount, a_tokenOp, a_tokenValue, a_inputCount, a_inputCoin, a_inputA, a_inputB, a_outputCount, a_outputAmount, a_outputScript, a_parentOf, a_heightOf, a_rewardScript, a_blockSize, a_blockTransaction, a_feeOf, a_rewardAmount) (b_length, b_op, b_arg, b_ins, b_inCoin, b_inA, b_inB, b_outs, b_amount, b_lock, b_parent, b_height, b_rewardLock, b_many, b_holds, gfe, grw) made blocks) (tk : fx_tok a_tokenCount a_tokenOp a_tokenValue) (tkE : fx_tok b_length b_op b_arg) (fq : pd_feq (a_tokenCount, a_tokenOp, a_tokenValue, a_inputCount, a_inputCoin, a_inputA, a_inputB, a_outputCount, a_outputAmount, a_outputScript, a_parentOf, a_heightOf, a_rewardScript, a_blockSize, a_blockTransaction, a_feeOf, a_rewardAmount) made) (rq : pd_req (a_tokenCount, a_tokenOp, a_tokenValue, a_inputCount, a_inputCoin, a_inputA, a_inputB, a_outputCount, a_outputAmount, a_outputScript, a_parentOf, a_heightOf, a_rewardScript, a_blockSize, a_blockTransaction, a_feeOf, a_rewardAmount) blocks) (hp0 : b_parent 0 = -1) :
    ∀ (d b : Nat), b + d = blocks → 0 < b → ∀ (cnt ar tp n np : Nat) (st av pl : Nat → Int32), cn_blk (a_tokenCount, a_tokenOp, a_tokenValue, a_inputCount, a_inputCoin, a_inputA, a_inputB, a_outputCount, a_outputAmount, a_outputScript, a_parentOf, a_heightOf, a_rewardScript, a_blockSize, a_blockTransaction, a_feeOf, a_rewardAmount) st b_delivered av a_chainWork b_work blocks ar tp 99 → cn_rdb (a_tokenCount, a_tokenOp, a_tokenValue, a_inputCount, a_inputCoin, a_inputA, a_inputB, a_outputCount, a_outputAmount, a_outputScript, a_parentOf, a_heightOf, a_rewardScript, a_blockSize, a_blockTransaction, a_feeOf, a_rewardAmount) b_delivered av b → a_heightOf tp = nI n → n < 32 → pd_pool (a_tokenCount, a_tokenOp, a_tokenValue, a_inputCount, a_inputCoin, a_inputA, a_inputB, a_outputCount, a_outputAmount, a_outputScript, a_parentOf, a_heightOf, a_rewardScript, a_blockSize, a_blockTransaction, a_feeOf, a_rewardAmount) (pd_lay (a_tokenCount, a_tokenOp, a_tokenValue, a_inputCount, a_inputCoin, a_inputA, a_inputB, a_outputCount, a_outputAmount, a_outputScript, a_parentOf, a_heightOf, a_rewardScript, a_blockSize, a_blockTransaction, a_feeOf, a_rewardAmount) n tp) made pl np →
    ∃ (cnt' ar' tp' n' np' : Nat) (st' av' pl' : Nat → Int32), cn_blk (a_tokenCount, a_tokenOp, a_tokenValue, a_inputCount, a_inputCoin, a_inputA, a_inputB, a_outputCount, a_outputAmount, a_outputScript, a_parentOf, a_heightOf, a_rewardScript, a_blockSize, a_blockTransaction, a_feeOf, a_rewardAmount) st' b_delivered av' a_chainWork b_work blocks ar' tp' 99 ∧ cn_rdb (a_tokenCount, a_tokenOp, a_tokenValue, a_inputCount, a_inputCoin, a_inputA, a_inputB, a_outputCount, a_outputAmount, a_outputScript, a_parentOf, a_heightOf, a_rewardScript, a_blockSize, a_blockTransaction, a_feeOf, a_rewardAmount) b_delivered av' blocks ∧ a_heightOf tp' = nI n' ∧ n' < 32 ∧ pd_pool (a_tokenCount, a_tokenOp, a_tokenValue, a_inputCount, a_inputCoin, a_inputA, a_inputB, a_outputCount, a_outputAmount, a_outputScript, a_parentOf, a_heightOf, a_rewardScript, a_blockSize, a_blockTransaction, a_feeOf, a_rewardAmount) (pd_lay (a_tokenCount, a_tokenOp, a_tokenValue, a_inputCount, a_inputCoin, a_inputA, a_inputB, a_outputCount, a_outputAmount, a_outputScript, a_parentOf, a_heightOf, a_rewardScript, a_blockSize, a_blockTransaction, a_feeOf, a_rewardAmount) n' tp') made pl' np'
      ∧ (∀ (post : Int32 → SX → Prop) (ss qc : Int32) (sk mk laid q : Nat → Int32), (∀ h, h ≤ n → laid h = nI (pd_anc (a_tokenCount, a_tokenOp, a_tokenValue, a_inputCount, a_inputCoin, a_inputA, a_inputB, a_outputCount, a_outputAmount, a_outputScript, a_parentOf, a_heightOf, a_rewardScript, a_blockSize, a_blockTransaction, a_feeOf, a_rewardAmount) tp (n - h))) → (∀ (ss' qc' : Int32) (sk' mk' laid' q' : Nat → Int32), (∀ h, h ≤ n' → laid' h = nI (pd_anc (a_tokenCount, a_tokenOp, a_tokenValue, a_inputCount, a_inputCoin, a_inputA, a_inputB, a_outputCount, a_outputAmount, a_outputScript, a_parentOf, a_heightOf, a_rewardScript, a_blockSize, a_blockTransaction, a_feeOf, a_rewardAmount) tp' (n' - h))) → post (nI cnt') (ss', nI made, f_putCount, nI blocks, nI tp', nI np', qc', a_tokenCount, a_tokenOp, a_tokenValue, a_scriptInUse, sk', a_inputCount, a_inputCoin, a_inputA, a_inputB, a_outputCount, a_outputAmount, a_outputScript, a_feeOf, a_putRow, a_parentOf, a_heightOf, a_chainWork, st', a_rewardAmount, a_rewardScript, a_blockSize, a_blockTransaction, laid', (pd_lay (a_tokenCount, a_tokenOp, a_tokenValue, a_inputCount, a_inputCoin, a_inputA, a_inputB, a_outputCount, a_outputAmount, a_outputScript, a_parentOf, a_heightOf, a_rewardScript, a_blockSize, a_blockTransaction, a_feeOf, a_rewardAmount) n' tp').1, (pd_lay (a_tokenCount, a_tokenOp, a_tokenValue, a_inputCount, a_inputCoin, a_inputA, a_inputB, a_outputCount, a_outputAmount, a_outputScript, a_parentOf, a_heightOf, a_rewardScript, a_blockSize, a_blockTransaction, a_feeOf, a_rewardAmount) n' tp').2.1, (pd_lay (a_tokenCount, a_tokenOp, a_tokenValue, a_inputCount, a_inputCoin, a_inputA, a_inputB, a_outputCount, a_outputAmount, a_outputScript, a_parentOf, a_heightOf, a_rewardScript, a_blockSize, a_blockTransaction, a_feeOf, a_rewardAmount) n' tp').2.2, pl', mk', q')) →
          ∀ fuel, d < fuel → wX_deliver_30 post fuel (nI cnt) (nI b) ss (nI made) f_putCount (nI blocks) (nI tp) (nI np) qc a_tokenCount a_tokenOp a_tokenValue a_scriptInUse sk a_inputCount a_inputCoin a_inputA a_inputB a_outputCount a_outputAmount a_outputScript a_feeOf a_putRow a_parentOf a_heightOf a_chainWork st a_rewardAmount a_rewardScript a_blockSize a_blockTransaction laid ((pd_lay (a_tokenCount, a_tokenOp, a_tokenValue, a_inputCount, a_inputCoin, a_inputA, a_inputB, a_outputCount, a_outputAmount, a_outputScript, a_parentOf, a_heightOf, a_rewardScript, a_blockSize, a_blockTransaction, a_feeOf, a_rewardAmount) n tp).1) ((pd_lay (a_tokenCount, a_tokenOp, a_tokenValue, a_inputCount, a_inputCoin, a_inputA, a_inputB, a_outputCount, a_outputAmount, a_outputScript, a_parentOf, a_heightOf, a_rewardScript, a_blockSize, a_blockTransaction, a_feeOf, a_rewardAmount) n tp).2.1) ((pd_lay (a_tokenCount, a_tokenOp, a_tokenValue, a_inputCount, a_inputCoin, a_inputA, a_inputB, a_outputCount, a_outputAmount, a_outputScript, a_parentOf, a_heightOf, a_rewardScript, a_blockSize, a_blockTransaction, a_feeOf, a_rewardAmount) n tp).2.2) pl mk q)
      ∧ (∀ (post : Int32 → SY → Prop) (S : pd_S) (cl : Int32) (sk wo ch ag : Nat → Int32), pd_out S → (∀ (S' : pd_S) (wo' ch' sk' ag' : Nat → Int32) (cl' : Int32), pd_out S' → post (nI cnt') (nI made, nI blocks, nI ar', nI tp', nI np', cl', b_op, b_arg, b_length, b_ins, b_inCoin, b_inA, b_inB, b_outs, b_amount, b_lock, b_parent, b_work, b_rewardLock, b_height, b_many, b_holds, b_delivered, av', pl', ch', (S').1, wo', (S').2.2, (S').2.1, sk', ag', b_chosen)) →
          ∀ fuel, d + 1 < fuel → wY_arrive_4 post fuel (nI cnt) 1 (nI made) (nI blocks) (nI ar) (nI tp) (nI np) cl b_op b_arg b_length b_ins b_inCoin b_inA b_inB b_outs b_amount b_lock b_parent b_work b_rewardLock b_height b_many b_holds b_delivered av pl ch S.1 wo S.2.2 S.2.1 sk ag b_chosen) := by
  have hbk := w.2.1
  have hb1 := w.1
  have wE := pd_wf_ag w ag
  have hpaE : ∀ c, 0 < c → c < blocks → b_parent c = a_parentOf c := fun c c0 hc => (ag.2.1 c hc).2.2.2.2.1 c0
  intro d
  induction d with
  | zero =>
    intro b hb hb0 cnt ar tp n np st av pl B R eh hn P
    obtain rfl : b = blocks := by omega
    refine ⟨cnt, ar, tp, n, np, st, av, pl, B, R, eh, hn, P, fun post ss qc sk mk laid q hl H fuel hf => ?_, fun post S cl sk wo ch ag0 hS H fuel hf => ?_⟩
    · obtain ⟨fuel, rfl⟩ : ∃ q, fuel = q + 1 := ⟨fuel - 1, by omega⟩
      exact br_t (nI_le (Nat.le_refl _) (by omega)) (H _ _ _ _ _ _ hl)
    · obtain ⟨fuel, rfl⟩ : ∃ q, fuel = q + 2 := ⟨fuel - 2, by omega⟩
      refine br_f (by decide) ⟨b, ym_scanN wE rfl (cn_h01 hbk B) (br_t rfl (H _ _ _ _ _ _ hS)) (b - 1) 1 b (by omega) (by omega) (by omega) (fun c hc1 hc2 e1 e2 => ?_)⟩
      rw [hpaE c (by omega) hc2]
      exact R c (by omega) hc2 e1 e2
  | succ d ih =>
    intro b hb hb0 cnt ar tp n np st av pl B R eh hn P
    have htp := B.2.2.2.2.2.1.1
    have har : ar ≤ 32 := by rw [B.2.2.1]; exact pd_cnt_le _ _
    obtain ⟨_, _, _, hpar⟩ := w.2.2.2.2.2 b (by omega)
    obtain ⟨p, p1, p2, _⟩ := hpar hb0
    have p2' : a_parentOf b = nI p := p2
    have ppc : (pd_pa (a_tokenCount, a_tokenOp, a_tokenValue, a_inputCount, a_inputCoin, a_inputA, a_inputB, a_outputCount, a_outputAmount, a_outputScript, a_parentOf, a_heightOf, a_rewardScript, a_blockSize, a_blockTransaction, a_feeOf, a_rewardAmount) b).toNatClampNeg = p := pd_cl p2 (by omega)
    have epb : a_parentOf (nI b).toNatClampNeg = nI p := by rw [pk_cl b]; exact p2'
    -- a step that changes nothing
    have skip : (b_delivered b = 1 → av b = -1 → av p < 0) → (st b = 1 → ¬ 2 ≤ st p) → ∃ (cnt' ar' tp' n' np' : Nat) (st' av' pl' : Nat → Int32), cn_blk (a_tokenCount, a_tokenOp, a_tokenValue, a_inputCount, a_inputCoin, a_inputA, a_inputB, a_outputCount, a_outputAmount, a_outputScript, a_parentOf, a_heightOf, a_rewardScript, a_blockSize, a_blockTransaction, a_feeOf, a_rewardAmount) st' b_delivered av' a_chainWork b_work blocks ar' tp' 99 ∧ cn_rdb (a_tokenCount, a_tokenOp, a_tokenValue, a_inputCount, a_inputCoin, a_inputA, a_inputB, a_outputCount, a_outputAmount, a_outputScript, a_parentOf, a_heightOf, a_rewardScript, a_blockSize, a_blockTransaction, a_feeOf, a_rewardAmount) b_delivered av' blocks ∧ a_heightOf tp' = nI n' ∧ n' < 32 ∧ pd_pool (a_tokenCount, a_tokenOp, a_tokenValue, a_inputCount, a_inputCoin, a_inputA, a_inputB, a_outputCount, a_outputAmount, a_outputScript, a_parentOf, a_heightOf, a_rewardScript, a_blockSize, a_blockTransaction, a_feeOf, a_rewardAmount) (pd_lay (a_tokenCount, a_tokenOp, a_tokenValue, a_inputCount, a_inputCoin, a_inputA, a_inputB, a_outputCount, a_outputAmount, a_outputScript, a_parentOf, a_heightOf, a_rewardScript, a_blockSize, a_blockTransaction, a_feeOf, a_rewardAmount) n' tp') made pl' np'
      ∧ (∀ (post : Int32 → SX → Prop) (ss qc : Int32) (sk mk laid q : Nat → Int32), (∀ h, h ≤ n → laid h = nI (pd_anc (a_tokenCount, a_tokenOp, a_tokenValue, a_inputCount, a_inputCoin, a_inputA, a_inputB, a_outputCount, a_outputAmount, a_outputScript, a_parentOf, a_heightOf, a_rewardScript, a_blockSize, a_blockTransaction, a_feeOf, a_rewardAmount) tp (n - h))) → (∀ (ss' qc' : Int32) (sk' mk' laid' q' : Nat → Int32), (∀ h, h ≤ n' → laid' h = nI (pd_anc (a_tokenCount, a_tokenOp, a_tokenValue, a_inputCount, a_inputCoin, a_inputA, a_inputB, a_outputCount, a_outputAmount, a_outputScript, a_parentOf, a_heightOf, a_rewardScript, a_blockSize, a_blockTransaction, a_feeOf, a_rewardAmount) tp' (n' - h))) → post (nI cnt') (ss', nI made, f_putCount, nI blocks, nI tp', nI np', qc', a_tokenCount, a_tokenOp, a_tokenValue, a_scriptInUse, sk', a_inputCount, a_inputCoin, a_inputA, a_inputB, a_outputCount, a_outputAmount, a_outputScript, a_feeOf, a_putRow, a_parentOf, a_heightOf, a_chainWork, st', a_rewardAmount, a_rewardScript, a_blockSize, a_blockTransaction, laid', (pd_lay (a_tokenCount, a_tokenOp, a_tokenValue, a_inputCount, a_inputCoin, a_inputA, a_inputB, a_outputCount, a_outputAmount, a_outputScript, a_parentOf, a_heightOf, a_rewardScript, a_blockSize, a_blockTransaction, a_feeOf, a_rewardAmount) n' tp').1, (pd_lay (a_tokenCount, a_tokenOp, a_tokenValue, a_inputCount, a_inputCoin, a_inputA, a_inputB, a_outputCount, a_outputAmount, a_outputScript, a_parentOf, a_heightOf, a_rewardScript, a_blockSize, a_blockTransaction, a_feeOf, a_rewardAmount) n' tp').2.1, (pd_lay (a_tokenCount, a_tokenOp, a_tokenValue, a_inputCount, a_inputCoin, a_inputA, a_inputB, a_outputCount, a_outputAmount, a_outputScript, a_parentOf, a_heightOf, a_rewardScript, a_blockSize, a_blockTransaction, a_feeOf, a_rewardAmount) n' tp').2.2, pl', mk', q')) →
          ∀ fuel, d + 1 < fuel → wX_deliver_30 post fuel (nI cnt) (nI b) ss (nI made) f_putCount (nI blocks) (nI tp) (nI np) qc a_tokenCount a_tokenOp a_tokenValue a_scriptInUse sk a_inputCount a_inputCoin a_inputA a_inputB a_outputCount a_outputAmount a_outputScript a_feeOf a_putRow a_parentOf a_heightOf a_chainWork st a_rewardAmount a_rewardScript a_blockSize a_blockTransaction laid ((pd_lay (a_tokenCount, a_tokenOp, a_tokenValue, a_inputCount, a_inputCoin, a_inputA, a_inputB, a_outputCount, a_outputAmount, a_outputScript, a_parentOf, a_heightOf, a_rewardScript, a_blockSize, a_blockTransaction, a_feeOf, a_rewardAmount) n tp).1) ((pd_lay (a_tokenCount, a_tokenOp, a_tokenValue, a_inputCount, a_inputCoin, a_inputA, a_inputB, a_outputCount, a_outputAmount, a_outputScript, a_parentOf, a_heightOf, a_rewardScript, a_blockSize, a_blockTransaction, a_feeOf, a_rewardAmount) n tp).2.1) ((pd_lay (a_tokenCount, a_tokenOp, a_tokenValue, a_inputCount, a_inputCoin, a_inputA, a_inputB, a_outputCount, a_outputAmount, a_outputScript, a_parentOf, a_heightOf, a_rewardScript, a_blockSize, a_blockTransaction, a_feeOf, a_rewardAmount) n tp).2.2) pl mk q)
      ∧ (∀ (post : Int32 → SY → Prop) (S : pd_S) (cl : Int32) (sk wo ch ag : Nat → Int32), pd_out S → (∀ (S' : pd_S) (wo' ch' sk' ag' : Nat → Int32) (cl' : Int32), pd_out S' → post (nI cnt') (nI made, nI blocks, nI ar', nI tp', nI np', cl', b_op, b_arg, b_length, b_ins, b_inCoin, b_inA, b_inB, b_outs, b_amount, b_lock, b_parent, b_work, b_rewardLock, b_height, b_many, b_holds, b_delivered, av', pl', ch', (S').1, wo', (S').2.2, (S').2.1, sk', ag', b_chosen)) →
          ∀ fuel, d + 1 + 1 < fuel → wY_arrive_4 post fuel (nI cnt) 1 (nI made) (nI blocks) (nI ar) (nI tp) (nI np) cl b_op b_arg b_length b_ins b_inCoin b_inA b_inB b_outs b_amount b_lock b_parent b_work b_rewardLock b_height b_many b_holds b_delivered av pl ch S.1 wo S.2.2 S.2.1 sk ag b_chosen) := by
      intro hq1 hq2
      have R' : cn_rdb (a_tokenCount, a_tokenOp, a_tokenValue, a_inputCount, a_inputCoin, a_inputA, a_inputB, a_outputCount, a_outputAmount, a_outputScript, a_parentOf, a_heightOf, a_rewardScript, a_blockSize, a_blockTransaction, a_feeOf, a_rewardAmount) b_delivered av (b + 1) := by
        intro c c0 hc e1 e2
        by_cases e : c = b
        · subst e; rw [ppc]; exact hq1 e1 e2
        · exact R c c0 (by omega) e1 e2
      obtain ⟨cnt', ar', tp', n', np', st', av', pl', B', R2, eh', hn', P', hX, hY⟩ := ih (b + 1) (by omega) (by omega) cnt ar tp n np st av pl B R' eh hn P
      refine ⟨cnt', ar', tp', n', np', st', av', pl', B', R2, eh', hn', P', fun post ss qc sk mk laid q hl H fuel hf => ?_, fun post S cl sk wo ch ag0 hS H fuel hf => hY post S cl sk wo ch ag0 hS H fuel (by omega)⟩
      obtain ⟨fuel, rfl⟩ : ∃ q, fuel = q + 1 := ⟨fuel - 1, by omega⟩
      have nx := hX post ss qc sk mk laid q hl H fuel (by omega)
      refine pk_le blocks b (fun z => by omega) (fun z => ⟨pk_in b 32 (by omega), ?_⟩)
      rw [epb, pk_cl b, pk_cl p]
      exact br_c (fun z1 => ⟨pk_in b 32 (by omega), pk_in p 32 (by omega), br_f (hq2 z1) (nm_r (nI_1 b) nx)⟩) (fun z1 => nm_r (nI_1 b) nx)
    rcases B.1 b (by omega) (by omega) with ⟨d1, d2, d3⟩ | ⟨d1, d2, d3⟩ | ⟨d1, ⟨a, a1, a2⟩, d3, d4⟩
    · exact skip (fun q => by rw [d1] at q; exact absurd q (by decide)) (fun q => by rw [d3] at q; exact absurd q (by decide))
    · by_cases hpa : 0 ≤ av p
      · -- b arrives
        obtain ⟨T, nT, np1, pl1, z, hT, eT, hnT, P1, hz, B1, hX1, hY1⟩ := ar_one (a_blockState := st) (b_arrived := av) (b := b) (pl := pl) (f_putCount := f_putCount) (a_scriptInUse := a_scriptInUse) (a_putRow := a_putRow) (b_chosen := b_chosen) w ag tk tkE fq rq hp0 (cn_blk_x hbk B d2) (by omega) hb0 d1 d2 (by have : (a_parentOf b).toNatClampNeg = p := ppc; rw [this]; exact hpa) eh hn P
        obtain ⟨cnt', ar', tp', n', np', st', av', pl', B', R2, eh', hn', P', hX, hY⟩ := ih (b + 1) (by omega) (by omega) (cnt + 1) (ar + 1) T nT np1 (upd st b z) (upd av b (nI ar)) pl1 B1 (cn_rdb_arr w (by omega) (by omega) R) eT hnT P1
        refine ⟨cnt', ar', tp', n', np', st', av', pl', B', R2, eh', hn', P', fun post ss qc sk mk laid q hl H fuel hf => ?_, fun post S cl sk wo ch ag0 hS H fuel hf => ?_⟩
        · obtain ⟨fuel, rfl⟩ : ∃ q, fuel = q + 1 := ⟨fuel - 1, by omega⟩
          have hst : 2 ≤ st p := by
            rcases B.1 p (by omega) (by omega) with ⟨_, e, _⟩ | ⟨_, e, _⟩ | ⟨_, _, _, h | h⟩
            · rw [e] at hpa; exact (pd_m1 hpa).elim
            · rw [e] at hpa; exact (pd_m1 hpa).elim
            · rw [h.1]; decide
            · rw [h.1]; decide
          refine pk_le blocks b (fun z => by omega) (fun z => ⟨pk_in b 32 (by omega), ?_⟩)
          rw [epb, pk_cl b, pk_cl p]
          refine br_t d3 ⟨pk_in b 32 (by omega), pk_in p 32 (by omega), br_t hst ?_⟩
          exact hX1 _ _ ss qc sk mk laid q (pd_inv_out (pd_inv_lay w n tp htp eh hn)) fun ss1 sk1 mk1 laid1 qc1 q1 hl1 => nm_r (nI_1 cnt) (nm_r (nI_1 b) (hX post ss1 qc1 sk1 mk1 laid1 q1 hl1 H fuel (by omega)))
        · obtain ⟨fuel, rfl⟩ : ∃ q, fuel = q + 1 := ⟨fuel - 1, by omega⟩
          refine br_f (by decide) ⟨b + 1, ym_scanF (b := b) (ar := ar) (Q := fun u => ∃ (S' : pd_S) (wo' ch' sk' ag' : Nat → Int32) (cl' : Int32), pd_out S' ∧ u = (nI made, nI blocks, nI (ar + 1), nI T, nI np1, cl', b_op, b_arg, b_length, b_ins, b_inCoin, b_inA, b_inB, b_outs, b_amount, b_lock, b_parent, b_work, b_rewardLock, b_height, b_many, b_holds, b_delivered, upd av b (nI ar), pl1, ch', (S').1, wo', (S').2.2, (S').2.1, sk', ag', b_chosen)) wE rfl rfl (by omega) hb0 (cn_h01 hbk B) d1 d2 ?_ (fun post' hq => hY1 post' S cl sk wo ch ag0 hS fun S' wo' ch' sk' ag' cl' ho => hq _ ⟨S', wo', ch', sk', ag', cl', ho, rfl⟩) ?_ (b - 1) 1 (b + 1) (by omega) (by omega) (by omega) (fun c hc1 hc2 e1 e2 => ?_)⟩
          · rw [hpaE b hb0 (by omega)]
            have : (a_parentOf b).toNatClampNeg = p := ppc
            rw [this]; exact hpa
          · rintro u ⟨S', wo', ch', sk', ag', cl', ho, rfl⟩
            dsimp only
            rw [nI_1 cnt]
            exact hY post S' cl' sk' wo' ch' ag' ho H fuel (by omega)
          · rw [hpaE c (by omega) (by omega)]
            exact R c (by omega) hc2 e1 e2
      · refine skip (fun _ _ => Int32.not_le.mp hpa) (fun _ => ?_)
        rcases B.1 p (by omega) (by omega) with ⟨_, _, e⟩ | ⟨_, _, e⟩ | ⟨_, ⟨a, a1, a2⟩, _⟩
        · rw [e]; decide
        · rw [e]; decide
        · exact (hpa (by rw [a2]; exact nI_pos' (by omega))).elim
    · refine skip (fun _ q => ?_) (fun q => ?_)
      · rw [a2] at q
        have := nI_pos' (n := a) (by omega)
        rw [q] at this
        exact (pd_m1 this).elim
      · rcases d4 with h | h
        · rw [h.1] at q; exact absurd q (by decide)
        · rw [h.1] at q; exact absurd q (by decide)
end
theorem i_vc_deliver {k : Nat} {u : SX} {v : SY} (I : i_Rel k u v) (hk : k + 4 ≤ 2048) (v1 : Int32) : wpX_deliver (fun r u' => wpY_deliver (fun r' v' => r' = r ∧ i_Rel (k + 4) u' v') v v1) u v1 := by
  obtain ⟨f_stackSize, f_transactions, f_putCount, f_blocks, f_tip, f_poolCount, f_queueCount, a_tokenCount, a_tokenOp, a_tokenValue, a_scriptInUse, a_stack, a_inputCount, a_inputCoin, a_inputA, a_inputB, a_outputCount, a_outputAmount, a_outputScript, a_feeOf, a_putRow, a_parentOf, a_heightOf, a_chainWork, a_blockState, a_rewardAmount, a_rewardScript, a_blockSize, a_blockTransaction, a_laidBlock, a_coinHeight, a_coinSpent, a_transactionHeight, a_poolRow, a_marked, a_queue⟩ := u
  obtain ⟨g_made, g_blocks, g_arrivals, g_tip, g_pooled, g_chainLength, b_op, b_arg, b_length, b_ins, b_inCoin, b_inA, b_inB, b_outs, b_amount, b_lock, b_parent, b_work, b_rewardLock, b_height, b_many, b_holds, b_delivered, b_arrived, b_pool, b_chain, b_from, b_worth, b_within, b_spent, b_stack, b_again, b_chosen⟩ := v
  have I' := I
  obtain ⟨made, blocks, tp, n, np, pc, ar, ⟨rfl, rfl, rfl, rfl, rfl⟩, ⟨rfl, rfl, rfl, rfl, rfl⟩, ⟨rfl, rfl, rfl, rfl⟩, ⟨rfl, rfl, rfl⟩, ST, B, RD, ⟨eh, hn⟩, hl, P, hS⟩ := I
  have ST0 := ST
  obtain ⟨tk, w, ag, fq, rq, hp0, us, df, pu, fr⟩ := ST0
  have hbk := w.2.1
  have har : ar ≤ 32 := by rw [B.2.2.1]; exact pd_cnt_le _ _
  rcases pk_ix v1 (n := blocks) (by omega) with h | h | ⟨b, hb, rfl⟩
  · exact br_t h (br_t rfl (br_t h (br_t rfl ⟨rfl, I'⟩)))
  · have h0 : ¬ v1 < 0 := Int32.not_lt.mpr (Int32.le_trans (nI_pos' (by omega)) h)
    exact br_f h0 (br_t h (br_t rfl (br_f h0 (br_t h (br_t rfl ⟨rfl, I'⟩)))))
  have b0 : ¬ nI b < 0 := nI_pos (by omega)
  have b1 : ¬ nI blocks ≤ nI b := nI_ge hb (by omega)
  have ebc : (nI b).toNatClampNeg = b := pk_cl b
  refine br_f b0 (br_f b1 (br_f (by decide) ⟨pk_in b 32 (by omega), ?_⟩))
  rw [ebc]
  have bad : ¬ a_blockState b = 0 → b_delivered b = 1 → ((a_blockState b = 0 → vp_in (nI b) 32 ∧ ∀ (a_blockState_42 : Nat → Int32), a_blockState_42 = upd a_blockState b 1 → (∃ n30 : Nat, wX_deliver_30 (fun r u' => wpY_deliver (fun r' v' => r' = r ∧ i_Rel (k + 4) u' v') (nI made, nI blocks, nI ar, nI tp, nI np, g_chainLength, a_tokenOp, a_tokenValue, a_tokenCount, b_ins, b_inCoin, b_inA, b_inB, b_outs, b_amount, b_lock, b_parent, b_work, b_rewardLock, b_height, b_many, b_holds, b_delivered, b_arrived, a_poolRow, b_chain, b_from, b_worth, b_within, b_spent, b_stack, b_again, b_chosen) (nI b)) n30 0 (nI b) f_stackSize (nI made) (nI pc) (nI blocks) (nI tp) (nI np) f_queueCount a_tokenCount a_tokenOp a_tokenValue a_scriptInUse a_stack a_inputCount a_inputCoin a_inputA a_inputB a_outputCount a_outputAmount a_outputScript a_feeOf a_putRow a_parentOf a_heightOf a_chainWork a_blockState_42 a_rewardAmount a_rewardScript a_blockSize a_blockTransaction a_laidBlock ((pd_lay (a_tokenCount, a_tokenOp, a_tokenValue, a_inputCount, a_inputCoin, a_inputA, a_inputB, a_outputCount, a_outputAmount, a_outputScript, a_parentOf, a_heightOf, a_rewardScript, a_blockSize, a_blockTransaction, a_feeOf, a_rewardAmount) n tp).1) ((pd_lay (a_tokenCount, a_tokenOp, a_tokenValue, a_inputCount, a_inputCoin, a_inputA, a_inputB, a_outputCount, a_outputAmount, a_outputScript, a_parentOf, a_heightOf, a_rewardScript, a_blockSize, a_blockTransaction, a_feeOf, a_rewardAmount) n tp).2.1) ((pd_lay (a_tokenCount, a_tokenOp, a_tokenValue, a_inputCount, a_inputCoin, a_inputA, a_inputB, a_outputCount, a_outputAmount, a_outputScript, a_parentOf, a_heightOf, a_rewardScript, a_blockSize, a_blockTransaction, a_feeOf, a_rewardAmount) n tp).2.2) a_poolRow a_marked a_queue)) ∧ (¬ a_blockState b = 0 → wpY_deliver (fun r' v' => r' = -1 ∧ i_Rel (k + 4) (f_stackSize, nI made, nI pc, nI blocks, nI tp, nI np, f_queueCount, a_tokenCount, a_tokenOp, a_tokenValue, a_scriptInUse, a_stack, a_inputCount, a_inputCoin, a_inputA, a_inputB, a_outputCount, a_outputAmount, a_outputScript, a_feeOf, a_putRow, a_parentOf, a_heightOf, a_chainWork, a_blockState, a_rewardAmount, a_rewardScript, a_blockSize, a_blockTransaction, a_laidBlock, (pd_lay (a_tokenCount, a_tokenOp, a_tokenValue, a_inputCount, a_inputCoin, a_inputA, a_inputB, a_outputCount, a_outputAmount, a_outputScript, a_parentOf, a_heightOf, a_rewardScript, a_blockSize, a_blockTransaction, a_feeOf, a_rewardAmount) n tp).1, (pd_lay (a_tokenCount, a_tokenOp, a_tokenValue, a_inputCount, a_inputCoin, a_inputA, a_inputB, a_outputCount, a_outputAmount, a_outputScript, a_parentOf, a_heightOf, a_rewardScript, a_blockSize, a_blockTransaction, a_feeOf, a_rewardAmount) n tp).2.1, (pd_lay (a_tokenCount, a_tokenOp, a_tokenValue, a_inputCount, a_inputCoin, a_inputA, a_inputB, a_outputCount, a_outputAmount, a_outputScript, a_parentOf, a_heightOf, a_rewardScript, a_blockSize, a_blockTransaction, a_feeOf, a_rewardAmount) n tp).2.2, a_poolRow, a_marked, a_queue) v') (nI made, nI blocks, nI ar, nI tp, nI np, g_chainLength, a_tokenOp, a_tokenValue, a_tokenCount, b_ins, b_inCoin, b_inA, b_inB, b_outs, b_amount, b_lock, b_parent, b_work, b_rewardLock, b_height, b_many, b_holds, b_delivered, b_arrived, a_poolRow, b_chain, b_from, b_worth, b_within, b_spent, b_stack, b_again, b_chosen) (nI b))) := by
    intro hs hd
    refine br_f hs (br_f b0 (br_f b1 (br_f (by decide) ⟨pk_in b 32 (by omega), ?_⟩)))
    rw [ebc]
    exact br_f (by rw [hd]; decide) ⟨rfl, I'⟩
  rcases B.1 b hb (by omega) with ⟨d1, d2, d3⟩ | ⟨d1, d2, d3⟩ | ⟨d1, d2, d3, d4⟩
  · have hb0 : 0 < b := by
      rcases Nat.eq_zero_or_pos b with e | e
      · have := B.2.2.2.2.2.2.2
        rw [e] at d2
        rw [d2] at this
        exact (pd_m1 this).elim
      · exact e
    have B1 := cn_dlv hbk B hb d1
    have R1 : cn_rdb (a_tokenCount, a_tokenOp, a_tokenValue, a_inputCount, a_inputCoin, a_inputA, a_inputB, a_outputCount, a_outputAmount, a_outputScript, a_parentOf, a_heightOf, a_rewardScript, a_blockSize, a_blockTransaction, a_feeOf, a_rewardAmount) (upd b_delivered b 1) b_arrived b := by
      intro c c0 hc e1 e2
      rw [pk_un (by omega)] at e1
      exact RD c c0 (by omega) e1 e2
    obtain ⟨cnt', ar', tp', n', np', st', av', pl', B', R2, eh', hn', P', hX, hY⟩ := dv_loop (f_putCount := nI pc) (a_scriptInUse := a_scriptInUse) (a_putRow := a_putRow) (b_chosen := b_chosen) w ag tk tk fq rq hp0 (blocks - b) b (by omega) hb0 0 ar tp n np (upd a_blockState b 1) b_arrived a_poolRow B1 R1 eh hn P
    refine br_t d3 ⟨pk_in b 32 (by omega), nm_e ⟨blocks - b + 1, ?_⟩⟩
    refine hX _ f_stackSize f_queueCount a_stack a_marked a_laidBlock a_queue hl (fun ss' qc' sk' mk' laid' q' hl' => ?_) _ (by omega)
    refine br_f b0 (br_f b1 (br_f (by decide) ⟨pk_in b 32 (by omega), ?_⟩))
    rw [ebc]
    refine br_t d1 ⟨pk_in b 32 (by omega), nm_r (by rw [xb_1]) ⟨blocks - b + 2, ?_⟩⟩
    refine hY _ (b_from, b_spent, b_within) g_chainLength b_stack b_worth b_chain b_again hS (fun S' wo' ch' sk' ag' cl' ho => ⟨rfl, ?_⟩) _ (by omega)
    exact ⟨made, blocks, tp', n', np', pc, ar', ⟨rfl, rfl, rfl, rfl, rfl⟩, ⟨rfl, rfl, rfl, rfl, rfl⟩, ⟨rfl, rfl, rfl, rfl⟩, ⟨rfl, rfl, rfl⟩, ST, B', R2, ⟨eh', hn'⟩, hl', P', ho⟩
  · exact bad (by rw [d3]; decide) d1
  · refine bad (fun q => ?_) d1
    rcases d4 with h | h
    · rw [h.1] at q; exact absurd q (by decide)
    · rw [h.1] at q; exact absurd q (by decide)
