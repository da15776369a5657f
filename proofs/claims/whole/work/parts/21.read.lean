/-! block and balance -/
theorem pd_anc_s (D : pd_D) (b : Nat) : ∀ k, pd_anc D b (k + 1) = pd_anc D (pd_pa D b).toNatClampNeg k := by
  intro k
  induction k with
  | zero => rfl
  | succ k ih => rw [pd_anc, ih, pd_anc]
theorem pd_txs_hi {D : pd_D} {made blocks b c : Nat} {h : Int32} {S : pd_S} (w : pd_wf D made blocks) (hb : b < blocks) (hc : 120 ≤ c) : ∀ n, n ≤ (pd_bs D b).toNatClampNeg → (pd_txs D b h n S).1 c = S.1 c := by
  intro n
  induction n with
  | zero => intro _; rfl
  | succ n ih =>
    intro hn
    obtain ⟨t, h1, h2, h3⟩ := pd_bt_of w hb (i := n) (by omega)
    have hm := w.2.2.1
    obtain ⟨_, m, _, _, _, hm3, _, em, _⟩ := w.2.2.2.2.1 _ h1
    have emc := pd_cl em (by omega)
    rw [pd_txs, h3]
    show pd_setH _ _ _ _ c = _
    rw [pd_setH_no (by omega), ih (by omega)]
theorem pd_lay_rew {D : pd_D} {made blocks x : Nat} (w : pd_wf D made blocks) (hx : x < blocks) : ∀ n b, b < blocks → pd_he D b = nI n → n < 32 → (0 ≤ (pd_lay D n b).1 (120 + x) ↔ ∃ k, k ≤ n ∧ pd_anc D b k = x) := by
  have hbk := w.2.1
  intro n
  induction n with
  | zero =>
    intro b hb he hn
    show 0 ≤ upd _ (120 + b) (pd_he D b) (120 + x) ↔ _
    by_cases e : x = b
    · rw [e, pk_us, he]
      exact ⟨fun _ => ⟨0, Nat.le_refl _, rfl⟩, fun _ => nI_pos' (by omega)⟩
    · rw [pk_un (by omega), pd_txs_hi w hb (by omega) _ (Nat.le_refl _)]
      have e0 : pd_S0.1 (120 + x) = -1 := if_pos (by omega)
      rw [e0]
      refine ⟨fun q => (pd_m1 q).elim, fun ⟨k, k1, k2⟩ => ?_⟩
      obtain rfl : k = 0 := by omega
      exact (e k2.symm).elim
  | succ n ih =>
    intro b hb he hn
    obtain ⟨p, h1, h2, h3, h4⟩ := pd_par w hb he (by omega)
    rw [pd_lay]
    show 0 ≤ upd _ (120 + b) (pd_he D b) (120 + x) ↔ _
    by_cases e : x = b
    · rw [e, pk_us, he]
      exact ⟨fun _ => ⟨0, by omega, rfl⟩, fun _ => nI_pos' (by omega)⟩
    · rw [pk_un (by omega), pd_txs_hi w hb (by omega) _ (Nat.le_refl _), h3, ih p (by omega) h4 (by omega)]
      refine ⟨fun ⟨k, k1, k2⟩ => ⟨k + 1, by omega, by rw [pd_anc_s, h3]; exact k2⟩, fun ⟨k, k1, k2⟩ => ?_⟩
      cases k with
      | zero => exact (e k2.symm).elim
      | succ k => exact ⟨k, by omega, by rw [pd_anc_s, h3] at k2; exact k2⟩
theorem cn_anc_av {D : pd_D} {st dl av cw wk : pd_F} {made blocks ar tp n b : Nat} (w : pd_wf D made blocks) (B : cn_blk D st dl av cw wk blocks ar tp 99) (hb : b < blocks) (he : pd_he D b = nI n) (hn : n < 32) (h0 : 0 ≤ av b) : ∀ k, k ≤ n → 0 ≤ av (pd_anc D b k) := by
  have hbk := w.2.1
  intro k
  induction k with
  | zero => intro _; exact h0
  | succ k ih =>
    intro hk
    have h1 := ih (by omega)
    obtain ⟨q1, q2⟩ := pd_anc_of w hb he hn k (by omega)
    obtain ⟨p, p1, p2, p3, p4⟩ := pd_par w q1 (n := n - k - 1) (by rw [q2]; exact congrArg nI (by omega)) (by omega)
    rw [pd_anc]
    rcases B.1 _ q1 (by omega) with ⟨_, e, _⟩ | ⟨_, e, _⟩ | ⟨_, _, h, _⟩
    · rw [e] at h1; exact (pd_m1 h1).elim
    · rw [e] at h1; exact (pd_m1 h1).elim
    · exact h (by omega)
theorem i_vc_block {k : Nat} {u : SX} {v : SY} (I : i_Rel k u v) (hk : k + 4 ≤ 2048) (v1 : Int32) (v2 : Int32) : wpX_block (fun r => wpY_block (fun r' v' => r' = r ∧ i_Rel (k + 4) u v') v v1 v2) u v1 v2 := by
  obtain ⟨f_stackSize, f_transactions, f_putCount, f_blocks, f_tip, f_poolCount, f_queueCount, a_tokenCount, a_tokenOp, a_tokenValue, a_scriptInUse, a_stack, a_inputCount, a_inputCoin, a_inputA, a_inputB, a_outputCount, a_outputAmount, a_outputScript, a_feeOf, a_putRow, a_parentOf, a_heightOf, a_chainWork, a_blockState, a_rewardAmount, a_rewardScript, a_blockSize, a_blockTransaction, a_laidBlock, a_coinHeight, a_coinSpent, a_transactionHeight, a_poolRow, a_marked, a_queue⟩ := u
  obtain ⟨g_made, g_blocks, g_arrivals, g_tip, g_pooled, g_chainLength, b_op, b_arg, b_length, b_ins, b_inCoin, b_inA, b_inB, b_outs, b_amount, b_lock, b_parent, b_work, b_rewardLock, b_height, b_many, b_holds, b_delivered, b_arrived, b_pool, b_chain, b_from, b_worth, b_within, b_spent, b_stack, b_again, b_chosen⟩ := v
  have I' := I
  obtain ⟨made, blocks, tp, n, np, pc, ar, ⟨rfl, rfl, rfl, rfl, rfl⟩, ⟨rfl, rfl, rfl, rfl, rfl⟩, ⟨rfl, rfl, rfl, rfl⟩, ⟨rfl, rfl, rfl⟩, ST, B, RD, ⟨eh, hn⟩, hl, P, hS⟩ := I
  obtain ⟨tk, w, ag, fq, rq, hp0, us, df, pu, fr⟩ := ST
  have hbk := w.2.1
  have htp := B.2.2.2.2.2.1.1
  have vtp := B.2.2.2.2.2.1.2.2.2
  have wE := pd_wf_ag w ag
  have hO := pd_inv_out (pd_inv_lay w n tp htp eh hn)
  rcases pk_ix v1 (n := blocks) (by omega) with h | h | ⟨b, hb, rfl⟩
  · exact br_t h (br_t rfl (br_t h (br_t rfl ⟨rfl, I'⟩)))
  · have h0 : ¬ v1 < 0 := Int32.not_lt.mpr (Int32.le_trans (nI_pos' (by omega)) h)
    exact br_f h0 (br_t h (br_t rfl (br_f h0 (br_t h (br_t rfl ⟨rfl, I'⟩)))))
  have h0 : ¬ nI b < 0 := nI_pos (by omega)
  have h1 : ¬ nI blocks ≤ nI b := nI_ge hb (by omega)
  have ebc : (nI b).toNatClampNeg = b := pk_cl b
  refine br_f h0 (br_f h1 (br_f (by decide) ?_))
  rcases pk_ix v2 (n := 4) (by omega) with h | h | ⟨j, hj, rfl⟩
  · exact br_t h (br_f h0 (br_f h1 (br_f (by decide) (br_t h (br_t rfl ⟨rfl, I'⟩)))))
  · have h20 : ¬ v2 < 0 := Int32.not_lt.mpr (Int32.le_trans (by decide) h)
    have h23 : 3 < v2 := by
      rw [Int32.lt_iff_toInt_lt]
      have := Int32.le_iff_toInt_le.mp h
      rw [show (nI 4).toInt = 4 from by decide] at this
      rw [show (3 : Int32).toInt = 3 from by decide]
      omega
    exact br_f h20 (br_t h23 (br_f h0 (br_f h1 (br_f (by decide) (br_f h20 (br_t h (br_t rfl ⟨rfl, I'⟩)))))))
  have j0 : ¬ nI j < 0 := nI_pos (by omega)
  have j3 : ¬ (3 : Int32) < nI j := nI_nlt (a := 3) (by omega) (by omega)
  have j4 : ¬ (4 : Int32) ≤ nI j := nI_ge (b := 4) hj (by omega)
  obtain ⟨m, _, hm32, ehb⟩ := pd_he_of w hb
  have ehb' : a_heightOf b = nI m := ehb
  have ehbE : b_height b = nI m := ((ag.2.1 b hb).1).trans ehb
  have hvb : pd_va (a_tokenCount, a_tokenOp, a_tokenValue, a_inputCount, a_inputCoin, a_inputA, a_inputB, a_outputCount, a_outputAmount, a_outputScript, a_parentOf, a_heightOf, a_rewardScript, a_blockSize, a_blockTransaction, a_feeOf, a_rewardAmount) b ↔ pd_valid (a_tokenCount, a_tokenOp, a_tokenValue, a_inputCount, a_inputCoin, a_inputA, a_inputB, a_outputCount, a_outputAmount, a_outputScript, a_parentOf, a_heightOf, a_rewardScript, a_blockSize, a_blockTransaction, a_feeOf, a_rewardAmount) m b := pd_va_n ehb hm32
  have hvE := pd_ag_valid w ag m b hb ehb hm32
  have e120 : (120 : Int32) + nI b = nI (120 + b) := nI_add 120 b
  refine br_f j0 (br_f j3 ?_)
  rcases (by omega : j = 0 ∨ j = 1 ∨ j = 2 ∨ j = 3) with rfl | rfl | rfl | rfl
  · -- what = 0
    refine br_t (by decide) ⟨pk_in (120 + b) 152 (by omega) e120, ?_⟩
    rw [pk_cl (120 + b) e120]
    have hchain := pd_lay_rew w hb n tp htp eh hn
    have goY : ∀ post : Int32 → SY → Prop, (∀ (S : pd_S) (wo st ch : Nat → Int32) (cl : Int32), pd_out S →
        (((b_delivered (nI b).toNatClampNeg) = 0 → post 0 (nI made, nI blocks, nI ar, nI tp, nI np, cl, a_tokenOp, a_tokenValue, a_tokenCount, b_ins, b_inCoin, b_inA, b_inB, b_outs, b_amount, b_lock, b_parent, b_work, b_rewardLock, b_height, b_many, b_holds, b_delivered, b_arrived, a_poolRow, ch, S.1, wo, S.2.2, S.2.1, st, b_again, b_chosen))
        ∧ (¬ (b_delivered (nI b).toNatClampNeg) = 0 → (¬ 0 ≤ b_arrived b → post 1 (nI made, nI blocks, nI ar, nI tp, nI np, cl, a_tokenOp, a_tokenValue, a_tokenCount, b_ins, b_inCoin, b_inA, b_inB, b_outs, b_amount, b_lock, b_parent, b_work, b_rewardLock, b_height, b_many, b_holds, b_delivered, b_arrived, a_poolRow, ch, S.1, wo, S.2.2, S.2.1, st, b_again, b_chosen))
          ∧ (0 ≤ b_arrived b → ¬ pd_va (a_tokenCount, a_tokenOp, a_tokenValue, a_inputCount, a_inputCoin, a_inputA, a_inputB, a_outputCount, a_outputAmount, a_outputScript, a_parentOf, a_heightOf, a_rewardScript, a_blockSize, a_blockTransaction, a_feeOf, a_rewardAmount) b → post 2 (nI made, nI blocks, nI ar, nI tp, nI np, cl, a_tokenOp, a_tokenValue, a_tokenCount, b_ins, b_inCoin, b_inA, b_inB, b_outs, b_amount, b_lock, b_parent, b_work, b_rewardLock, b_height, b_many, b_holds, b_delivered, b_arrived, a_poolRow, ch, S.1, wo, S.2.2, S.2.1, st, b_again, b_chosen))
          ∧ (0 ≤ b_arrived b → pd_va (a_tokenCount, a_tokenOp, a_tokenValue, a_inputCount, a_inputCoin, a_inputA, a_inputB, a_outputCount, a_outputAmount, a_outputScript, a_parentOf, a_heightOf, a_rewardScript, a_blockSize, a_blockTransaction, a_feeOf, a_rewardAmount) b → (∃ q, q ≤ n ∧ pd_anc (a_tokenCount, a_tokenOp, a_tokenValue, a_inputCount, a_inputCoin, a_inputA, a_inputB, a_outputCount, a_outputAmount, a_outputScript, a_parentOf, a_heightOf, a_rewardScript, a_blockSize, a_blockTransaction, a_feeOf, a_rewardAmount) tp q = b) → post 4 (nI made, nI blocks, nI ar, nI tp, nI np, cl, a_tokenOp, a_tokenValue, a_tokenCount, b_ins, b_inCoin, b_inA, b_inB, b_outs, b_amount, b_lock, b_parent, b_work, b_rewardLock, b_height, b_many, b_holds, b_delivered, b_arrived, a_poolRow, ch, S.1, wo, S.2.2, S.2.1, st, b_again, b_chosen))
          ∧ (0 ≤ b_arrived b → pd_va (a_tokenCount, a_tokenOp, a_tokenValue, a_inputCount, a_inputCoin, a_inputA, a_inputB, a_outputCount, a_outputAmount, a_outputScript, a_parentOf, a_heightOf, a_rewardScript, a_blockSize, a_blockTransaction, a_feeOf, a_rewardAmount) b → ¬ (∃ q, q ≤ n ∧ pd_anc (a_tokenCount, a_tokenOp, a_tokenValue, a_inputCount, a_inputCoin, a_inputA, a_inputB, a_outputCount, a_outputAmount, a_outputScript, a_parentOf, a_heightOf, a_rewardScript, a_blockSize, a_blockTransaction, a_feeOf, a_rewardAmount) tp q = b) → post 3 (nI made, nI blocks, nI ar, nI tp, nI np, cl, a_tokenOp, a_tokenValue, a_tokenCount, b_ins, b_inCoin, b_inA, b_inB, b_outs, b_amount, b_lock, b_parent, b_work, b_rewardLock, b_height, b_many, b_holds, b_delivered, b_arrived, a_poolRow, ch, S.1, wo, S.2.2, S.2.1, st, b_again, b_chosen))))) →
        wpY_block post (nI made, nI blocks, nI ar, nI tp, nI np, g_chainLength, a_tokenOp, a_tokenValue, a_tokenCount, b_ins, b_inCoin, b_inA, b_inB, b_outs, b_amount, b_lock, b_parent, b_work, b_rewardLock, b_height, b_many, b_holds, b_delivered, b_arrived, a_poolRow, b_chain, b_from, b_worth, b_within, b_spent, b_stack, b_again, b_chosen) (nI b) (nI 0) := by
      intro post H
      refine br_f h0 (br_f h1 (br_f (by decide) (br_f j0 (br_f j4 (br_f (by decide) (br_f (by decide) (br_f (by decide) ?_)))))))
      refine ym_walk (gfe := a_feeOf) (grw := a_rewardAmount) wE tk (pd_feq_ag w ag fq) (pd_req_ag w ag rq) hb ehbE hm32 _ hS (fun hv wo st ch _ _ => br_f (by decide) ⟨pk_in b 32 (by omega), ?_⟩) (fun hv S wo st ch ho => br_f (by decide) ⟨pk_in b 32 (by omega), ?_⟩)
      · have va : pd_va (a_tokenCount, a_tokenOp, a_tokenValue, a_inputCount, a_inputCoin, a_inputA, a_inputB, a_outputCount, a_outputAmount, a_outputScript, a_parentOf, a_heightOf, a_rewardScript, a_blockSize, a_blockTransaction, a_feeOf, a_rewardAmount) b := hvb.mpr (hvE.mp hv)
        have ho := pd_inv_out (pd_inv_lay wE m b hb ehbE hm32)
        obtain ⟨g1, g2⟩ := H _ wo st ch (nI (m + 1)) ho
        refine br_c (fun z => g1 z) (fun z => ⟨pk_in b 32 (by omega), ?_⟩)
        obtain ⟨g3, g4, _, _⟩ := g2 z
        rw [ebc]
        refine br_c (fun z1 => br_f (by decide) ?_) (fun z1 => g3 z1)
        refine ry_tip (gfe := a_feeOf) (grw := a_rewardAmount) w ag tk fq rq htp eh hn vtp _ ho fun wo2 st2 ch2 hw hc => ⟨pk_in b 33 (by omega), ?_⟩
        obtain ⟨_, k2⟩ := H _ wo2 st2 ch2 (nI (n + 1)) hO
        obtain ⟨_, _, g5, g6⟩ := k2 z
        rw [ehbE]
        refine pk_le (n + 1) m (fun z2 => g6 z1 va fun ⟨q, q1, q2⟩ => ?_) (fun z2 => ⟨pk_in b 33 (by omega), pk_in m 32 hm32, ?_⟩)
        · have := (pd_anc_of w htp eh hn q q1).2
          rw [q2, ehb, nI_eq (by omega) (by omega)] at this
          omega
        · rw [pk_cl m, hc m (by omega)]
          refine pk_eq (pd_anc (a_tokenCount, a_tokenOp, a_tokenValue, a_inputCount, a_inputCoin, a_inputA, a_inputB, a_outputCount, a_outputAmount, a_outputScript, a_parentOf, a_heightOf, a_rewardScript, a_blockSize, a_blockTransaction, a_feeOf, a_rewardAmount) tp (n - m)) b (fun e => g5 z1 va ⟨n - m, by omega, e⟩) (fun e => g6 z1 va fun ⟨q, q1, q2⟩ => ?_) rfl rfl (by have := (pd_anc_of w htp eh hn (n - m) (by omega)).1; omega) (by omega)
          have := (pd_anc_of w htp eh hn q q1).2
          rw [q2, ehb, nI_eq (by omega) (by omega)] at this
          obtain rfl : q = n - m := by omega
          exact e q2
      · have va : ¬ pd_va (a_tokenCount, a_tokenOp, a_tokenValue, a_inputCount, a_inputCoin, a_inputA, a_inputB, a_outputCount, a_outputAmount, a_outputScript, a_parentOf, a_heightOf, a_rewardScript, a_blockSize, a_blockTransaction, a_feeOf, a_rewardAmount) b := fun q => hv (hvE.mpr (hvb.mp q))
        obtain ⟨g1, g2⟩ := H S wo st ch (nI (m + 1)) ho
        refine br_c (fun z => g1 z) (fun z => ⟨pk_in b 32 (by omega), ?_⟩)
        obtain ⟨g3, g4, _, _⟩ := g2 z
        rw [ebc]
        exact br_c (fun z1 => br_t rfl (g4 z1 va)) (fun z1 => g3 z1)
    have scr : ∀ (S : pd_S) (wo st ch : Nat → Int32) (cl : Int32), pd_out S → i_Rel (k + 4) (f_stackSize, nI made, nI pc, nI blocks, nI tp, nI np, f_queueCount, a_tokenCount, a_tokenOp, a_tokenValue, a_scriptInUse, a_stack, a_inputCount, a_inputCoin, a_inputA, a_inputB, a_outputCount, a_outputAmount, a_outputScript, a_feeOf, a_putRow, a_parentOf, a_heightOf, a_chainWork, a_blockState, a_rewardAmount, a_rewardScript, a_blockSize, a_blockTransaction, a_laidBlock, (pd_lay (a_tokenCount, a_tokenOp, a_tokenValue, a_inputCount, a_inputCoin, a_inputA, a_inputB, a_outputCount, a_outputAmount, a_outputScript, a_parentOf, a_heightOf, a_rewardScript, a_blockSize, a_blockTransaction, a_feeOf, a_rewardAmount) n tp).1, (pd_lay (a_tokenCount, a_tokenOp, a_tokenValue, a_inputCount, a_inputCoin, a_inputA, a_inputB, a_outputCount, a_outputAmount, a_outputScript, a_parentOf, a_heightOf, a_rewardScript, a_blockSize, a_blockTransaction, a_feeOf, a_rewardAmount) n tp).2.1, (pd_lay (a_tokenCount, a_tokenOp, a_tokenValue, a_inputCount, a_inputCoin, a_inputA, a_inputB, a_outputCount, a_outputAmount, a_outputScript, a_parentOf, a_heightOf, a_rewardScript, a_blockSize, a_blockTransaction, a_feeOf, a_rewardAmount) n tp).2.2, a_poolRow, a_marked, a_queue) (nI made, nI blocks, nI ar, nI tp, nI np, cl, a_tokenOp, a_tokenValue, a_tokenCount, b_ins, b_inCoin, b_inA, b_inB, b_outs, b_amount, b_lock, b_parent, b_work, b_rewardLock, b_height, b_many, b_holds, b_delivered, b_arrived, a_poolRow, ch, S.1, wo, S.2.2, S.2.1, st, b_again, b_chosen) := fun S wo st ch cl ho => rl_scr I' S ho wo ch st _ _ cl
    refine br_c (fun z => ⟨pk_in b 32 (by omega), goY _ fun S wo st ch cl ho => ?_⟩) (fun z => goY _ fun S wo st ch cl ho => ?_)
    · -- not in the chain: the state as X keeps it
      have hnc : ¬ ∃ q, q ≤ n ∧ pd_anc (a_tokenCount, a_tokenOp, a_tokenValue, a_inputCount, a_inputCoin, a_inputA, a_inputB, a_outputCount, a_outputAmount, a_outputScript, a_parentOf, a_heightOf, a_rewardScript, a_blockSize, a_blockTransaction, a_feeOf, a_rewardAmount) tp q = b := fun q => absurd (hchain.mpr q) (Int32.not_le.mpr z)
      have sc := scr S wo st ch cl ho
      rw [ebc]
      rcases B.1 b hb (by omega) with ⟨d1, d2, d3⟩ | ⟨d1, d2, d3⟩ | ⟨d1, ⟨a, d2, d3⟩, d4, d5⟩
      · rw [d3]
        exact ⟨fun _ => ⟨rfl, sc⟩, fun q => (q d1).elim⟩
      · rw [d3]
        refine ⟨fun q => by rw [d1] at q; exact absurd q (by decide), fun _ => ⟨fun _ => ⟨rfl, sc⟩, fun q => ?_, fun q => ?_, fun q => ?_⟩⟩
        · rw [d2] at q; exact (pd_m1 q).elim
        · rw [d2] at q; exact (pd_m1 q).elim
        · rw [d2] at q; exact (pd_m1 q).elim
      · have harr : ar ≤ 32 := by rw [B.2.2.1]; exact pd_cnt_le _ _
        have d3' : 0 ≤ b_arrived b := by rw [d3]; exact nI_pos' (by omega)
        refine ⟨fun q => by rw [d1] at q; exact absurd q (by decide), fun _ => ⟨fun q => (q d3').elim, fun _ q => ?_, fun _ _ q => (hnc q).elim, fun _ q _ => ?_⟩⟩
        · rcases d5 with ⟨e, e'⟩ | ⟨e, _⟩
          · exact (q e').elim
          · rw [e]; exact ⟨rfl, sc⟩
        · rcases d5 with ⟨e, e'⟩ | ⟨e, e'⟩
          · rw [e]; exact ⟨rfl, sc⟩
          · exact (e' q).elim
    · -- in the chain
      have hc := hchain.mp (Int32.not_lt.mp z)
      obtain ⟨q, q1, q2⟩ := hc
      have hav : 0 ≤ b_arrived b := by rw [← q2]; exact cn_anc_av w B htp eh hn B.2.2.2.2.2.1.2.2.1 q q1
      have hva : pd_va (a_tokenCount, a_tokenOp, a_tokenValue, a_inputCount, a_inputCoin, a_inputA, a_inputB, a_outputCount, a_outputAmount, a_outputScript, a_parentOf, a_heightOf, a_rewardScript, a_blockSize, a_blockTransaction, a_feeOf, a_rewardAmount) b := by
        have hq := pd_valid_anc n ((pd_va_n eh hn).mp vtp) q q1
        have := (pd_anc_of w htp eh hn q q1).2
        rw [q2] at hq this
        exact (pd_va_n this (by omega)).mpr hq
      have sc := scr S wo st ch cl ho
      refine ⟨fun q' => ?_, fun _ => ⟨fun q' => (q' hav).elim, fun _ q' => (q' hva).elim, fun _ _ _ => ⟨rfl, sc⟩, fun _ _ q' => (q' ⟨q, q1, q2⟩).elim⟩⟩
      rw [ebc] at q'
      rcases B.1 b hb (by omega) with ⟨_, d2, _⟩ | ⟨d1, _, _⟩ | ⟨d1, _⟩
      · rw [d2] at hav; exact (pd_m1 hav).elim
      · rw [d1] at q'; exact absurd q' (by decide)
      · rw [d1] at q'; exact absurd q' (by decide)
  · refine br_f (by decide) (br_t (by decide) ⟨pk_in b 32 (by omega), br_f h0 (br_f h1 (br_f (by decide) (br_f j0 (br_f j4 (br_f (by decide) (br_t (by decide) ⟨pk_in b 33 (by omega), ?_, I'⟩))))))⟩)
    rw [ebc, ehbE, ehb']
  · refine br_f (by decide) (br_f (by decide) (br_t (by decide) ⟨pk_in b 32 (by omega), br_f h0 (br_f h1 (br_f (by decide) (br_f j0 (br_f j4 (br_f (by decide) (br_f (by decide) (br_t (by decide) ?_)))))))⟩))
    rw [ebc]
    exact ym_workOf (gfe := a_feeOf) (grw := a_rewardAmount) wE a_chainWork (cn_wrk_ag ag B.2.2.2.2.1) hp0 b hb ⟨rfl, I'⟩
  · refine br_f (by decide) (br_f (by decide) (br_f (by decide) (br_t (by decide) ⟨pk_in b 32 (by omega), ?_⟩)))
    rw [ebc]
    have goY : ∀ post : Int32 → SY → Prop, (∀ (S : pd_S) (wo st ch : Nat → Int32) (cl : Int32), pd_out S → (0 ≤ b_arrived b → pd_va (a_tokenCount, a_tokenOp, a_tokenValue, a_inputCount, a_inputCoin, a_inputA, a_inputB, a_outputCount, a_outputAmount, a_outputScript, a_parentOf, a_heightOf, a_rewardScript, a_blockSize, a_blockTransaction, a_feeOf, a_rewardAmount) b → post (a_rewardAmount b) (nI made, nI blocks, nI ar, nI tp, nI np, cl, a_tokenOp, a_tokenValue, a_tokenCount, b_ins, b_inCoin, b_inA, b_inB, b_outs, b_amount, b_lock, b_parent, b_work, b_rewardLock, b_height, b_many, b_holds, b_delivered, b_arrived, a_poolRow, ch, S.1, wo, S.2.2, S.2.1, st, b_again, b_chosen)) ∧ (¬ (0 ≤ b_arrived b ∧ pd_va (a_tokenCount, a_tokenOp, a_tokenValue, a_inputCount, a_inputCoin, a_inputA, a_inputB, a_outputCount, a_outputAmount, a_outputScript, a_parentOf, a_heightOf, a_rewardScript, a_blockSize, a_blockTransaction, a_feeOf, a_rewardAmount) b) → post 0 (nI made, nI blocks, nI ar, nI tp, nI np, cl, a_tokenOp, a_tokenValue, a_tokenCount, b_ins, b_inCoin, b_inA, b_inB, b_outs, b_amount, b_lock, b_parent, b_work, b_rewardLock, b_height, b_many, b_holds, b_delivered, b_arrived, a_poolRow, ch, S.1, wo, S.2.2, S.2.1, st, b_again, b_chosen))) →
        wpY_block post (nI made, nI blocks, nI ar, nI tp, nI np, g_chainLength, a_tokenOp, a_tokenValue, a_tokenCount, b_ins, b_inCoin, b_inA, b_inB, b_outs, b_amount, b_lock, b_parent, b_work, b_rewardLock, b_height, b_many, b_holds, b_delivered, b_arrived, a_poolRow, b_chain, b_from, b_worth, b_within, b_spent, b_stack, b_again, b_chosen) (nI b) (nI 3) := by
      intro post H
      refine br_f h0 (br_f h1 (br_f (by decide) (br_f j0 (br_f j4 (br_f (by decide) (br_f (by decide) (br_f (by decide) ?_)))))))
      refine ym_walk (gfe := a_feeOf) (grw := a_rewardAmount) wE tk (pd_feq_ag w ag fq) (pd_req_ag w ag rq) hb ehbE hm32 _ hS (fun hv wo st ch hw _ => br_t (by decide) (br_f (by decide) ⟨pk_in b 32 (by omega), ?_⟩)) (fun hv S wo st ch ho => br_t (by decide) (br_t rfl ((H S wo st ch _ ho).2 fun q => hv (hvE.mpr (hvb.mp q.2)))))
      have va : pd_va (a_tokenCount, a_tokenOp, a_tokenValue, a_inputCount, a_inputCoin, a_inputA, a_inputB, a_outputCount, a_outputAmount, a_outputScript, a_parentOf, a_heightOf, a_rewardScript, a_blockSize, a_blockTransaction, a_feeOf, a_rewardAmount) b := hvb.mpr (hvE.mp hv)
      obtain ⟨g1, g2⟩ := H _ wo st ch (nI (m + 1)) (pd_inv_out (pd_inv_lay wE m b hb ehbE hm32))
      rw [ebc]
      refine br_c (fun z => g2 fun q => absurd q.1 (Int32.not_le.mpr z)) (fun z => ⟨pk_in (120 + b) 152 (by omega) e120, ?_⟩)
      rw [pk_cl (120 + b) e120]
      have hpos : 0 ≤ (pd_lay (a_tokenCount, a_tokenOp, a_tokenValue, b_ins, b_inCoin, b_inA, b_inB, b_outs, b_amount, b_lock, b_parent, b_height, b_rewardLock, b_many, b_holds, a_feeOf, a_rewardAmount) m b).1 (120 + b) := (pd_lay_rew wE hb m b hb ehbE hm32).mpr ⟨0, by omega, rfl⟩
      rw [hw (120 + b) (by omega) hpos]
      have ea : pd_amt (a_tokenCount, a_tokenOp, a_tokenValue, b_ins, b_inCoin, b_inA, b_inB, b_outs, b_amount, b_lock, b_parent, b_height, b_rewardLock, b_many, b_holds, a_feeOf, a_rewardAmount) (120 + b) = a_rewardAmount b := by
        unfold pd_amt
        rw [if_neg (by omega), show 120 + b - 120 = b by omega]
      rw [ea]
      exact g1 (Int32.not_lt.mp z) va
    have scr : ∀ (S : pd_S) (wo st ch : Nat → Int32) (cl : Int32), pd_out S → i_Rel (k + 4) (f_stackSize, nI made, nI pc, nI blocks, nI tp, nI np, f_queueCount, a_tokenCount, a_tokenOp, a_tokenValue, a_scriptInUse, a_stack, a_inputCount, a_inputCoin, a_inputA, a_inputB, a_outputCount, a_outputAmount, a_outputScript, a_feeOf, a_putRow, a_parentOf, a_heightOf, a_chainWork, a_blockState, a_rewardAmount, a_rewardScript, a_blockSize, a_blockTransaction, a_laidBlock, (pd_lay (a_tokenCount, a_tokenOp, a_tokenValue, a_inputCount, a_inputCoin, a_inputA, a_inputB, a_outputCount, a_outputAmount, a_outputScript, a_parentOf, a_heightOf, a_rewardScript, a_blockSize, a_blockTransaction, a_feeOf, a_rewardAmount) n tp).1, (pd_lay (a_tokenCount, a_tokenOp, a_tokenValue, a_inputCount, a_inputCoin, a_inputA, a_inputB, a_outputCount, a_outputAmount, a_outputScript, a_parentOf, a_heightOf, a_rewardScript, a_blockSize, a_blockTransaction, a_feeOf, a_rewardAmount) n tp).2.1, (pd_lay (a_tokenCount, a_tokenOp, a_tokenValue, a_inputCount, a_inputCoin, a_inputA, a_inputB, a_outputCount, a_outputAmount, a_outputScript, a_parentOf, a_heightOf, a_rewardScript, a_blockSize, a_blockTransaction, a_feeOf, a_rewardAmount) n tp).2.2, a_poolRow, a_marked, a_queue) (nI made, nI blocks, nI ar, nI tp, nI np, cl, a_tokenOp, a_tokenValue, a_tokenCount, b_ins, b_inCoin, b_inA, b_inB, b_outs, b_amount, b_lock, b_parent, b_work, b_rewardLock, b_height, b_many, b_holds, b_delivered, b_arrived, a_poolRow, ch, S.1, wo, S.2.2, S.2.1, st, b_again, b_chosen) := fun S wo st ch cl ho => rl_scr I' S ho wo ch st _ _ cl
    refine br_c (fun z => ⟨pk_in b 32 (by omega), goY _ fun S wo st ch cl ho => ⟨fun _ _ => ?_, fun q => ?_⟩⟩) (fun z => goY _ fun S wo st ch cl ho => ⟨fun q1 q2 => ?_, fun q => ⟨rfl, scr S wo st ch cl ho⟩⟩)
    · exact ⟨rfl, scr S wo st ch cl ho⟩
    · refine (q ?_).elim
      rcases B.1 b hb (by omega) with ⟨_, _, d3⟩ | ⟨_, _, d3⟩ | ⟨_, ⟨a, d2, d3⟩, _, d5⟩
      · rw [d3] at z; exact absurd z (by decide)
      · rw [d3] at z; exact absurd z (by decide)
      · have harr : ar ≤ 32 := by rw [B.2.2.1]; exact pd_cnt_le _ _
        rcases d5 with ⟨e, e'⟩ | ⟨e, e'⟩
        · exact ⟨by rw [d3]; exact nI_pos' (by omega), e'⟩
        · rw [e] at z; exact absurd z (by decide)
    · rcases B.1 b hb (by omega) with ⟨_, d2, _⟩ | ⟨_, d2, _⟩ | ⟨_, _, _, d5⟩
      · rw [d2] at q1; exact (pd_m1 q1).elim
      · rw [d2] at q1; exact (pd_m1 q1).elim
      · rcases d5 with ⟨e, _⟩ | ⟨_, e'⟩
        · exact (z e).elim
        · exact (e' q2).elim
