/-! token -/
theorem yq_in {x : Int32} {n : Nat} (hn : n < 2 ^ 31) {post : Int32 → Prop} (H0 : (x < 0 ∨ nI n ≤ x) → post 0) (H1 : ∀ j, j < n → x = nI j → post 1) : wpY_in post x (nI n) := rl_in hn H0 H1
theorem i_vc_token {k : Nat} {u : SX} {v : SY} (I : i_Rel k u v) (hk : k + 4 ≤ 2048) (v1 : Int32) (v2 : Int32) (v3 : Int32) : wpX_token (fun r u' => wpY_token (fun r' v' => r' = r ∧ i_Rel (k + 4) u' v') v v1 v2 v3) u v1 v2 v3 := by
  obtain ⟨f_stackSize, f_transactions, f_putCount, f_blocks, f_tip, f_poolCount, f_queueCount, a_tokenCount, a_tokenOp, a_tokenValue, a_scriptInUse, a_stack, a_inputCount, a_inputCoin, a_inputA, a_inputB, a_outputCount, a_outputAmount, a_outputScript, a_feeOf, a_putRow, a_parentOf, a_heightOf, a_chainWork, a_blockState, a_rewardAmount, a_rewardScript, a_blockSize, a_blockTransaction, a_laidBlock, a_coinHeight, a_coinSpent, a_transactionHeight, a_poolRow, a_marked, a_queue⟩ := u
  obtain ⟨g_made, g_blocks, g_arrivals, g_tip, g_pooled, g_chainLength, b_op, b_arg, b_length, b_ins, b_inCoin, b_inA, b_inB, b_outs, b_amount, b_lock, b_parent, b_work, b_rewardLock, b_height, b_many, b_holds, b_delivered, b_arrived, b_pool, b_chain, b_from, b_worth, b_within, b_spent, b_stack, b_again, b_chosen⟩ := v
  have I' := I
  obtain ⟨made, blocks, tp, n, np, pc, ar, ⟨rfl, rfl, rfl, rfl, rfl⟩, ⟨rfl, rfl, rfl, rfl, rfl⟩, ⟨rfl, rfl, rfl, rfl⟩, ⟨rfl, rfl, rfl⟩, ST, B, RD, ⟨eh, hn⟩, hl, P, hS⟩ := I
  obtain ⟨tk, w, ag, fq, rq, hp0, us, df, pu, fr⟩ := ST
  have wE := pd_wf_ag w ag
  rcases pk_ix v1 (n := 8) (by omega) with h | h | ⟨s, hs, rfl⟩
  · exact br_t h (br_t rfl (br_t h (br_t rfl ⟨rfl, I'⟩)))
  · have h0 : ¬ v1 < 0 := Int32.not_lt.mpr (Int32.le_trans (by decide) h)
    exact br_f h0 (br_t h (br_t rfl (br_f h0 (br_t h (br_t rfl ⟨rfl, I'⟩)))))
  have s0 : ¬ nI s < 0 := nI_pos (by omega)
  have s8 : ¬ (8 : Int32) ≤ nI s := nI_ge (b := 8) hs (by omega)
  have sc : (nI s).toNatClampNeg = s := pk_cl s
  refine br_f s0 (br_f s8 (br_f (by decide) ?_))
  rcases pk_ix v2 (n := 13) (by omega) with h | h | ⟨o, ho, rfl⟩
  · exact br_t h (br_f s0 (br_f s8 (br_f (by decide) (br_t h (br_t rfl ⟨rfl, I'⟩)))))
  · have h0 : ¬ v2 < 0 := Int32.not_lt.mpr (Int32.le_trans (by decide) h)
    have h12 : 12 < v2 := by
      rw [Int32.lt_iff_toInt_lt]
      have := Int32.le_iff_toInt_le.mp h
      rw [show (nI 13).toInt = 13 from by decide] at this
      rw [show (12 : Int32).toInt = 12 from by decide]
      omega
    exact br_f h0 (br_t h12 (br_f s0 (br_f s8 (br_f (by decide) (br_f h0 (br_t h (br_t rfl ⟨rfl, I'⟩)))))))
  have o0 : ¬ nI o < 0 := nI_pos (by omega)
  have o12 : ¬ (12 : Int32) < nI o := nI_nlt (a := 12) (by omega) (by omega)
  have o13 : ¬ (13 : Int32) ≤ nI o := nI_ge (b := 13) ho (by omega)
  refine br_f o0 (br_f o12 ⟨pk_in s 8 hs, ?_⟩)
  rw [sc]
  -- Y once it has looked at op
  have Yuse : ∀ post : Int32 → SY → Prop, a_scriptInUse s = 1 → post (-1) (nI made, nI blocks, nI ar, nI tp, nI np, g_chainLength, a_tokenOp, a_tokenValue, a_tokenCount, b_ins, b_inCoin, b_inA, b_inB, b_outs, b_amount, b_lock, b_parent, b_work, b_rewardLock, b_height, b_many, b_holds, b_delivered, b_arrived, a_poolRow, b_chain, b_from, b_worth, b_within, b_spent, b_stack, b_again, b_chosen) → wpY_token post (nI made, nI blocks, nI ar, nI tp, nI np, g_chainLength, a_tokenOp, a_tokenValue, a_tokenCount, b_ins, b_inCoin, b_inA, b_inB, b_outs, b_amount, b_lock, b_parent, b_work, b_rewardLock, b_height, b_many, b_holds, b_delivered, b_arrived, a_poolRow, b_chain, b_from, b_worth, b_within, b_spent, b_stack, b_again, b_chosen) (nI s) (nI o) v3 := by
    intro post hu H
    have hused : pd_used (a_tokenCount, a_tokenOp, a_tokenValue, b_ins, b_inCoin, b_inA, b_inB, b_outs, b_amount, b_lock, b_parent, b_height, b_rewardLock, b_many, b_holds, a_feeOf, a_rewardAmount) made blocks s := by
      rw [pd_used_ag ag]
      rcases us s hs with h | h
      · rw [hu] at h; exact absurd h.1 (by decide)
      · exact h.2
    refine br_f s0 (br_f s8 (br_f (by decide) (br_f o0 (br_f o13 (br_f (by decide) (br_c (fun z => yq_in (n := 9) (by omega) (fun _ => br_t rfl H) (fun j hj e => br_f (by decide) (yq_used (gfe := a_feeOf) (grw := a_rewardAmount) wE rfl rfl hs (fun _ => br_f (by decide) H) (fun q => (q hused).elim)))) (fun z => yq_used (gfe := a_feeOf) (grw := a_rewardAmount) wE rfl rfl hs (fun _ => br_f (by decide) H) (fun q => (q hused).elim))))))))
  rcases us s hs with ⟨hu, hnu⟩ | ⟨hu, hus⟩
  rotate_left
  · exact br_f (by rw [hu]; decide) (Yuse _ hu ⟨rfl, I'⟩)
  refine br_t hu ?_
  have hnuE : ¬ pd_used (a_tokenCount, a_tokenOp, a_tokenValue, b_ins, b_inCoin, b_inA, b_inB, b_outs, b_amount, b_lock, b_parent, b_height, b_rewardLock, b_many, b_holds, a_feeOf, a_rewardAmount) made blocks s := fun q => hnu ((pd_used_ag ag).mp q)
  obtain ⟨L, hL, eL, htk⟩ := tk s hs
  have eLc : a_tokenCount (nI s).toNatClampNeg = nI L := by rw [sc]; exact eL
  have e8 : nI s * 8 + a_tokenCount (nI s).toNatClampNeg = nI (8 * s + L) := by rw [eLc, show (8 : Int32) = nI 8 from rfl, pk_mul, nI_add, Nat.mul_comm]
  have e8' : 8 * nI s + a_tokenCount (nI s).toNatClampNeg = nI (8 * s + L) := by rw [eLc, show (8 : Int32) = nI 8 from rfl, pk_mul, nI_add]
  -- both, once the int is allowed
  have main : (o = 12 → ∃ j, j ≤ 8 ∧ v3 = nI j) → wX_token_47 (fun r u' => wpY_token (fun r' v' => r' = r ∧ i_Rel (k + 4) u' v') (nI made, nI blocks, nI ar, nI tp, nI np, g_chainLength, a_tokenOp, a_tokenValue, a_tokenCount, b_ins, b_inCoin, b_inA, b_inB, b_outs, b_amount, b_lock, b_parent, b_work, b_rewardLock, b_height, b_many, b_holds, b_delivered, b_arrived, a_poolRow, b_chain, b_from, b_worth, b_within, b_spent, b_stack, b_again, b_chosen) (nI s) (nI o) v3) (nI s) (nI o) v3 f_stackSize (nI made) (nI pc) (nI blocks) (nI tp) (nI np) f_queueCount a_tokenCount a_tokenOp a_tokenValue a_scriptInUse a_stack a_inputCount a_inputCoin a_inputA a_inputB a_outputCount a_outputAmount a_outputScript a_feeOf a_putRow a_parentOf a_heightOf a_chainWork a_blockState a_rewardAmount a_rewardScript a_blockSize a_blockTransaction a_laidBlock ((pd_lay (a_tokenCount, a_tokenOp, a_tokenValue, a_inputCount, a_inputCoin, a_inputA, a_inputB, a_outputCount, a_outputAmount, a_outputScript, a_parentOf, a_heightOf, a_rewardScript, a_blockSize, a_blockTransaction, a_feeOf, a_rewardAmount) n tp).1) ((pd_lay (a_tokenCount, a_tokenOp, a_tokenValue, a_inputCount, a_inputCoin, a_inputA, a_inputB, a_outputCount, a_outputAmount, a_outputScript, a_parentOf, a_heightOf, a_rewardScript, a_blockSize, a_blockTransaction, a_feeOf, a_rewardAmount) n tp).2.1) ((pd_lay (a_tokenCount, a_tokenOp, a_tokenValue, a_inputCount, a_inputCoin, a_inputA, a_inputB, a_outputCount, a_outputAmount, a_outputScript, a_parentOf, a_heightOf, a_rewardScript, a_blockSize, a_blockTransaction, a_feeOf, a_rewardAmount) n tp).2.2) a_poolRow a_marked a_queue := by
    intro hv
    have goY : ∀ post : Int32 → SY → Prop, wY_token_33 post (nI s) (nI o) v3 (nI made) (nI blocks) (nI ar) (nI tp) (nI np) g_chainLength a_tokenOp a_tokenValue a_tokenCount b_ins b_inCoin b_inA b_inB b_outs b_amount b_lock b_parent b_work b_rewardLock b_height b_many b_holds b_delivered b_arrived a_poolRow b_chain b_from b_worth b_within b_spent b_stack b_again b_chosen → wpY_token post (nI made, nI blocks, nI ar, nI tp, nI np, g_chainLength, a_tokenOp, a_tokenValue, a_tokenCount, b_ins, b_inCoin, b_inA, b_inB, b_outs, b_amount, b_lock, b_parent, b_work, b_rewardLock, b_height, b_many, b_holds, b_delivered, b_arrived, a_poolRow, b_chain, b_from, b_worth, b_within, b_spent, b_stack, b_again, b_chosen) (nI s) (nI o) v3 := by
      intro post H
      refine br_f s0 (br_f s8 (br_f (by decide) (br_f o0 (br_f o13 (br_f (by decide) (pk_eq o 12 (fun z => ?_) (fun z => H)))))))
      obtain ⟨j, hj, rfl⟩ := hv z
      exact br_f (nI_pos (by omega)) (br_f (nI_ge (b := 9) (by omega) (by omega)) (br_f (by decide) H))
    refine ⟨pk_in s 8 hs, pk_eq L 8 (fun e => goY _ ?_) (fun e => ⟨pk_in s 8 hs, nm_r e8 ⟨pk_in (8 * s + L) 64 (by omega), nm_r (by rw [pk_cl (x := nI (8 * s + L)) (8 * s + L)]) ⟨pk_in (8 * s + L) 64 (by omega), nm_r (by rw [pk_cl (x := nI (8 * s + L)) (8 * s + L)]) ⟨pk_in s 8 hs, pk_in s 8 hs, nm_r (by rw [eLc, sc, nI_1]) ⟨pk_in s 8 hs, goY _ ?_⟩⟩⟩⟩⟩) eLc⟩
    · exact yq_used (gfe := a_feeOf) (grw := a_rewardAmount) wE rfl rfl hs (fun q => (hnuE q).elim) (fun _ => br_t rfl ⟨pk_in s 8 hs, br_t (by rw [eLc, e]; rfl) ⟨rfl, I'⟩⟩)
    · refine yq_used (gfe := a_feeOf) (grw := a_rewardAmount) wE rfl rfl hs (fun q => (hnuE q).elim) (fun _ => br_t rfl ⟨pk_in s 8 hs, br_f (by rw [eLc]; intro q; exact e ((nI_eq (b := 8) (by omega) (by omega)).mp q)) ⟨pk_in s 8 hs, nm_r e8' ⟨pk_in (8 * s + L) 64 (by omega), nm_r (by rw [pk_cl (x := nI (8 * s + L)) (8 * s + L)]) ⟨pk_in (8 * s + L) 64 (by omega), nm_r (by rw [pk_cl (x := nI (8 * s + L)) (8 * s + L)]) ⟨pk_in s 8 hs, pk_in s 8 hs, nm_r (by rw [eLc, sc, nI_1]) ⟨pk_in s 8 hs, ?_, ?_⟩⟩⟩⟩⟩⟩)
      · rw [sc]
      · refine rl_mk (D := (a_tokenCount, a_tokenOp, a_tokenValue, a_inputCount, a_inputCoin, a_inputA, a_inputB, a_outputCount, a_outputAmount, a_outputScript, a_parentOf, a_heightOf, a_rewardScript, a_blockSize, a_blockTransaction, a_feeOf, a_rewardAmount)) w ⟨fun t _ => ⟨rfl, rfl, rfl, fun _ _ => ⟨rfl, rfl, rfl⟩, fun _ _ => ⟨rfl, rfl⟩⟩, fun b _ => ⟨rfl, rfl, rfl, rfl, fun _ => rfl, fun _ _ => rfl⟩, fun s' hs' => ?_⟩ (fun s' hs' => ?_) ⟨ag.1, ag.2.1, fun s' _ => ⟨rfl, fun _ _ => ⟨rfl, rfl⟩⟩⟩ fq rq hp0 us df pu fr B RD eh hn hl P hS
        · have hne : s' ≠ s := fun e => hnu (e ▸ hs')
          refine ⟨pk_un hne, fun i hi => ?_⟩
          have hlt : 8 * s' + i ≠ 8 * s + L := by
            by_cases q : s' < 8
            · obtain ⟨L', hL', eL', _⟩ := tk s' q
              have : (a_tokenCount s').toNatClampNeg = L' := pd_cl eL' (by omega)
              have hi' : i < (a_tokenCount s').toNatClampNeg := hi
              omega
            · omega
          exact ⟨pk_un hlt, pk_un hlt⟩
        · by_cases e1 : s' = s
          · subst e1
            refine ⟨L + 1, by omega, pk_us, fun i hi => ?_⟩
            by_cases e2 : i = L
            · subst e2
              rw [pk_us, pk_us]
              exact ⟨o, by omega, rfl, hv⟩
            · rw [pk_un (by omega), pk_un (by omega)]
              exact htk i (by omega)
          · obtain ⟨L', hL', eL', h'⟩ := tk s' hs'
            refine ⟨L', hL', by rw [pk_un e1]; exact eL', fun i hi => ?_⟩
            rw [pk_un (by omega), pk_un (by omega)]
            exact h' i hi
  -- the int of a SKIP
  by_cases e12 : o = 12
  · subst e12
    refine br_t (by decide) ?_
    have Ybad : ∀ post : Int32 → SY → Prop, (v3 < 0 ∨ nI 9 ≤ v3) → post (-1) (nI made, nI blocks, nI ar, nI tp, nI np, g_chainLength, a_tokenOp, a_tokenValue, a_tokenCount, b_ins, b_inCoin, b_inA, b_inB, b_outs, b_amount, b_lock, b_parent, b_work, b_rewardLock, b_height, b_many, b_holds, b_delivered, b_arrived, a_poolRow, b_chain, b_from, b_worth, b_within, b_spent, b_stack, b_again, b_chosen) → wpY_token post (nI made, nI blocks, nI ar, nI tp, nI np, g_chainLength, a_tokenOp, a_tokenValue, a_tokenCount, b_ins, b_inCoin, b_inA, b_inB, b_outs, b_amount, b_lock, b_parent, b_work, b_rewardLock, b_height, b_many, b_holds, b_delivered, b_arrived, a_poolRow, b_chain, b_from, b_worth, b_within, b_spent, b_stack, b_again, b_chosen) (nI s) (nI 12) v3 := by
      intro post hv H
      refine br_f s0 (br_f s8 (br_f (by decide) (br_f o0 (br_f o13 (br_f (by decide) (br_t (by decide) (yq_in (n := 9) (by omega) (fun _ => br_t rfl H) (fun j hj e => ?_))))))))
      subst e
      rcases hv with q | q
      · exact (nI_pos (by omega) q).elim
      · exact (nI_ge hj (by omega) q).elim
    rcases pk_ix v3 (n := 9) (by omega) with h | h | ⟨j, hj, e⟩
    · exact br_t h (Ybad _ (Or.inl h) ⟨rfl, I'⟩)
    · have h0 : ¬ v3 < 0 := Int32.not_lt.mpr (Int32.le_trans (by decide) h)
      have h8 : ¬ v3 ≤ 8 := fun q => absurd (Int32.le_trans h q) (by decide)
      exact br_f h0 (br_f h8 (Ybad _ (Or.inr h) ⟨rfl, I'⟩))
    · have h0 : ¬ v3 < 0 := by rw [e]; exact nI_pos (by omega)
      have h8 : v3 ≤ 8 := by rw [e]; exact nI_le (b := 8) (by omega) (by omega)
      exact br_f h0 (br_t h8 (main fun _ => ⟨j, by omega, e⟩))
  · exact br_f (fun q => e12 ((nI_eq (b := 12) (by omega) (by omega)).mp q)) (main fun q => (e12 q).elim)
