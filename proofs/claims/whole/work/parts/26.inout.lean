/-! input and output -/
section
variable {f_stackSize f_transactions f_putCount f_blocks f_tip f_poolCount f_queueCount : Int32} {a_tokenCount a_tokenOp a_tokenValue a_scriptInUse a_stack a_inputCount a_inputCoin a_inputA a_inputB a_outputCount a_outputAmount a_outputScript a_feeOf a_putRow a_parentOf a_heightOf a_chainWork a_blockState a_rewardAmount a_rewardScript a_blockSize a_blockTransaction a_laidBlock a_coinHeight a_coinSpent a_transactionHeight a_poolRow a_marked a_queue : Nat → Int32}
variable {g_made g_blocks g_arrivals g_tip g_pooled g_chainLength : Int32} {b_op b_arg b_length b_ins b_inCoin b_inA b_inB b_outs b_amount b_lock b_parent b_work b_rewardLock b_height b_many b_holds b_delivered b_arrived b_pool b_chain b_from b_worth b_within b_spent b_stack b_again b_chosen gfe grw : Nat → Int32}
theorem df_inp {made blocks di c : Nat} {v2 v3 : Int32} (w : pd_wf (a_tokenCount, a_tokenOp, a_tokenValue, a_inputCount, a_inputCoin, a_inputA, a_inputB, a_outputCount, a_outputAmount, a_outputScript, a_parentOf, a_heightOf, a_rewardScript, a_blockSize, a_blockTransaction, a_feeOf, a_rewardAmount) made blocks) (hc : c < 152) (hq : pd_coin (a_tokenCount, a_tokenOp, a_tokenValue, a_inputCount, a_inputCoin, a_inputA, a_inputB, a_outputCount, a_outputAmount, a_outputScript, a_parentOf, a_heightOf, a_rewardScript, a_blockSize, a_blockTransaction, a_feeOf, a_rewardAmount) made blocks c) (h3 : di < 3) (ei : a_inputCount made = nI di) (hno : ¬ ∃ i, i < di ∧ a_inputCoin (3 * made + i) = nI c) (df : cn_drf (a_tokenCount, a_tokenOp, a_tokenValue, a_inputCount, a_inputCoin, a_inputA, a_inputB, a_outputCount, a_outputAmount, a_outputScript, a_parentOf, a_heightOf, a_rewardScript, a_blockSize, a_blockTransaction, a_feeOf, a_rewardAmount) (b_length, b_op, b_arg, b_ins, b_inCoin, b_inA, b_inB, b_outs, b_amount, b_lock, b_parent, b_height, b_rewardLock, b_many, b_holds, gfe, grw) made blocks) :
    cn_drf (a_tokenCount, a_tokenOp, a_tokenValue, upd a_inputCount made (nI (di + 1)), upd a_inputCoin (3 * made + di) (nI c), upd a_inputA (3 * made + di) v2, upd a_inputB (3 * made + di) v3, a_outputCount, a_outputAmount, a_outputScript, a_parentOf, a_heightOf, a_rewardScript, a_blockSize, a_blockTransaction, a_feeOf, a_rewardAmount) (b_length, b_op, b_arg, upd b_ins 40 (nI (di + 1)), upd b_inCoin (120 + di) (nI c), upd b_inA (120 + di) v2, upd b_inB (120 + di) v3, b_outs, b_amount, b_lock, b_parent, b_height, b_rewardLock, b_many, b_holds, gfe, grw) made blocks := by
  have a := ag_inp (x := nI (di + 1)) (y := nI c) (z := v2) (q := v3) w (tt := made) (p := 3 * made + di) (Nat.le_refl _) (by omega)
  obtain ⟨di', od, d1, d2, d3, d4, d5, d6, d7, d8, d9, d10⟩ := df
  have d3' : a_inputCount made = nI di' := d3
  obtain rfl : di = di' := by rw [ei, nI_eq (by omega) (by omega)] at d3'; exact d3'
  have hm := w.2.2.1
  refine ⟨di + 1, od, by omega, d2, (pk_us : upd a_inputCount made (nI (di + 1)) made = nI (di + 1)), (pk_us : upd b_ins 40 (nI (di + 1)) 40 = nI (di + 1)), d5, d6, fun i hi => ?_, fun i j hi hj e => ?_, d9, fun t h1 h2 => ?_⟩
  · show upd a_inputCoin (3 * made + di) (nI c) (3 * made + i) = upd b_inCoin (120 + di) (nI c) (120 + i) ∧ upd a_inputA (3 * made + di) v2 (3 * made + i) = upd b_inA (120 + di) v2 (120 + i) ∧ upd a_inputB (3 * made + di) v3 (3 * made + i) = upd b_inB (120 + di) v3 (120 + i) ∧ ∃ c', c' < 152 ∧ upd a_inputCoin (3 * made + di) (nI c) (3 * made + i) = nI c' ∧ _
    by_cases e : i = di
    · subst e
      rw [pk_us, pk_us, pk_us, pk_us, pk_us, pk_us]
      exact ⟨rfl, rfl, rfl, c, hc, rfl, (pd_ag_coin a (Nat.le_refl _)).mpr hq⟩
    · rw [pk_un (by omega), pk_un (by omega), pk_un (by omega), pk_un (by omega), pk_un (by omega), pk_un (by omega)]
      obtain ⟨q1, q2, q3, c', q4, q5, q6⟩ := d7 i (by omega)
      exact ⟨q1, q2, q3, c', q4, q5, (pd_ag_coin a (Nat.le_refl _)).mpr q6⟩
  · have e' : upd a_inputCoin (3 * made + di) (nI c) (3 * made + i) = upd a_inputCoin (3 * made + di) (nI c) (3 * made + j) := e
    by_cases e1 : i = di
    · by_cases e2 : j = di
      · omega
      · subst e1
        rw [pk_us, pk_un (by omega)] at e'
        exact (hno ⟨j, by omega, e'.symm⟩).elim
    · by_cases e2 : j = di
      · subst e2
        rw [pk_us, pk_un (by omega)] at e'
        exact (hno ⟨i, by omega, e'⟩).elim
      · rw [pk_un (by omega), pk_un (by omega)] at e'
        exact d8 i j (by omega) (by omega) e'
  · show upd a_inputCount made (nI (di + 1)) t = 0 ∧ _
    rw [pk_un (by omega)]
    exact d10 t h1 h2
theorem df_out {made blocks od s : Nat} {v1 : Int32} (w : pd_wf (a_tokenCount, a_tokenOp, a_tokenValue, a_inputCount, a_inputCoin, a_inputA, a_inputB, a_outputCount, a_outputAmount, a_outputScript, a_parentOf, a_heightOf, a_rewardScript, a_blockSize, a_blockTransaction, a_feeOf, a_rewardAmount) made blocks) (hs : s < 8) (h3 : od < 3) (eo : a_outputCount made = nI od) (df : cn_drf (a_tokenCount, a_tokenOp, a_tokenValue, a_inputCount, a_inputCoin, a_inputA, a_inputB, a_outputCount, a_outputAmount, a_outputScript, a_parentOf, a_heightOf, a_rewardScript, a_blockSize, a_blockTransaction, a_feeOf, a_rewardAmount) (b_length, b_op, b_arg, b_ins, b_inCoin, b_inA, b_inB, b_outs, b_amount, b_lock, b_parent, b_height, b_rewardLock, b_many, b_holds, gfe, grw) made blocks) :
    cn_drf (a_tokenCount, a_tokenOp, a_tokenValue, a_inputCount, a_inputCoin, a_inputA, a_inputB, upd a_outputCount made (nI (od + 1)), upd a_outputAmount (3 * made + od) v1, upd a_outputScript (3 * made + od) (nI s), a_parentOf, a_heightOf, a_rewardScript, a_blockSize, a_blockTransaction, a_feeOf, a_rewardAmount) (b_length, b_op, b_arg, b_ins, b_inCoin, b_inA, b_inB, upd b_outs 40 (nI (od + 1)), upd b_amount (120 + od) v1, upd b_lock (120 + od) (nI s), b_parent, b_height, b_rewardLock, b_many, b_holds, gfe, grw) made blocks := by
  have a := ag_out (x := nI (od + 1)) (y := v1) (z := nI s) w (tt := made) (p := 3 * made + od) (Nat.le_refl _) (by omega)
  obtain ⟨di, od', d1, d2, d3, d4, d5, d6, d7, d8, d9, d10⟩ := df
  have d5' : a_outputCount made = nI od' := d5
  obtain rfl : od = od' := by rw [eo, nI_eq (by omega) (by omega)] at d5'; exact d5'
  have hm := w.2.2.1
  refine ⟨di, od + 1, d1, by omega, d3, d4, (pk_us : upd a_outputCount made (nI (od + 1)) made = nI (od + 1)), (pk_us : upd b_outs 40 (nI (od + 1)) 40 = nI (od + 1)), fun i hi => ?_, d8, fun i hi => ?_, fun t h1 h2 => ?_⟩
  · obtain ⟨q1, q2, q3, c', q4, q5, q6⟩ := d7 i hi
    exact ⟨q1, q2, q3, c', q4, q5, (pd_ag_coin a (Nat.le_refl _)).mpr q6⟩
  · show upd a_outputAmount (3 * made + od) v1 (3 * made + i) = upd b_amount (120 + od) v1 (120 + i) ∧ upd a_outputScript (3 * made + od) (nI s) (3 * made + i) = upd b_lock (120 + od) (nI s) (120 + i) ∧ ∃ s', s' < 8 ∧ upd a_outputScript (3 * made + od) (nI s) (3 * made + i) = nI s'
    by_cases e : i = od
    · subst e
      rw [pk_us, pk_us, pk_us, pk_us]
      exact ⟨rfl, rfl, s, hs, rfl⟩
    · rw [pk_un (by omega), pk_un (by omega), pk_un (by omega), pk_un (by omega)]
      exact d9 i (by omega)
  · show _ ∧ upd a_outputCount made (nI (od + 1)) t = 0
    rw [pk_un (by omega)]
    exact d10 t h1 h2
end
theorem i_vc_input {k : Nat} {u : SX} {v : SY} (I : i_Rel k u v) (hk : k + 4 ≤ 2048) (v1 : Int32) (v2 : Int32) (v3 : Int32) : wpX_input (fun r u' => wpY_input (fun r' v' => r' = r ∧ i_Rel (k + 4) u' v') v v1 v2 v3) u v1 v2 v3 := by
  obtain ⟨f_stackSize, f_transactions, f_putCount, f_blocks, f_tip, f_poolCount, f_queueCount, a_tokenCount, a_tokenOp, a_tokenValue, a_scriptInUse, a_stack, a_inputCount, a_inputCoin, a_inputA, a_inputB, a_outputCount, a_outputAmount, a_outputScript, a_feeOf, a_putRow, a_parentOf, a_heightOf, a_chainWork, a_blockState, a_rewardAmount, a_rewardScript, a_blockSize, a_blockTransaction, a_laidBlock, a_coinHeight, a_coinSpent, a_transactionHeight, a_poolRow, a_marked, a_queue⟩ := u
  obtain ⟨g_made, g_blocks, g_arrivals, g_tip, g_pooled, g_chainLength, b_op, b_arg, b_length, b_ins, b_inCoin, b_inA, b_inB, b_outs, b_amount, b_lock, b_parent, b_work, b_rewardLock, b_height, b_many, b_holds, b_delivered, b_arrived, b_pool, b_chain, b_from, b_worth, b_within, b_spent, b_stack, b_again, b_chosen⟩ := v
  have I' := I
  obtain ⟨made, blocks, tp, n, np, pc, ar, ⟨rfl, rfl, rfl, rfl, rfl⟩, ⟨rfl, rfl, rfl, rfl, rfl⟩, ⟨rfl, rfl, rfl, rfl⟩, ⟨rfl, rfl, rfl⟩, ST, B, RD, ⟨eh, hn⟩, hl, P, hS⟩ := I
  obtain ⟨tk, w, ag, fq, rq, hp0, us, df, pu, fr⟩ := ST
  have hm := w.2.2.1
  have wE := pd_wf_ag w ag
  have df' := df
  obtain ⟨di, od, d1, d2, d3, d4, d5, d6, d7, d8, d9, d10⟩ := df'
  have d3' : a_inputCount made = nI di := d3
  have d4' : b_ins 40 = nI di := d4
  have emc : (nI made).toNatClampNeg = made := pk_cl made
  have hsame : ∀ x : Int32, (∃ i, i < di ∧ b_inCoin (120 + i) = x) ↔ (∃ i, i < di ∧ a_inputCoin (3 * made + i) = x) := fun x => exists_congr fun i => and_congr_right fun hi => by
    have : a_inputCoin (3 * made + i) = b_inCoin (120 + i) := (d7 i hi).1
    rw [this]
  unfold wpX_input
  dsimp only
  refine xq_coin w (fun c hc ec hq => ?_) (fun hno => br_t rfl ?_)
  rotate_left
  · unfold wpY_input
    dsimp only
    refine yq_coin (gfe := a_feeOf) (grw := a_rewardAmount) wE (fun c hc ec hq => ?_) (fun _ => br_t rfl ⟨rfl, I'⟩)
    exact (hno c hc ec ((pd_ag_coin ag (Nat.le_refl _)).mp hq)).elim
  subst ec
  have goY : ∀ post : Int32 → SY → Prop, (∃ fuel, wY_input_14 post (nI c) v2 v3 (nI made) (nI blocks) (nI ar) (nI tp) (nI np) g_chainLength a_tokenOp a_tokenValue a_tokenCount b_ins b_inCoin b_inA b_inB b_outs b_amount b_lock b_parent b_work b_rewardLock b_height b_many b_holds b_delivered b_arrived a_poolRow b_chain b_from b_worth b_within b_spent b_stack b_again b_chosen fuel 120) → wpY_input post (nI made, nI blocks, nI ar, nI tp, nI np, g_chainLength, a_tokenOp, a_tokenValue, a_tokenCount, b_ins, b_inCoin, b_inA, b_inB, b_outs, b_amount, b_lock, b_parent, b_work, b_rewardLock, b_height, b_many, b_holds, b_delivered, b_arrived, a_poolRow, b_chain, b_from, b_worth, b_within, b_spent, b_stack, b_again, b_chosen) (nI c) v2 v3 := by
    intro post H
    unfold wpY_input
    dsimp only
    refine yq_coin (gfe := a_feeOf) (grw := a_rewardAmount) wE (fun _ _ _ _ => br_f (by decide) H) (fun hno => ?_)
    exact (hno c hc rfl ((pd_ag_coin ag (Nat.le_refl _)).mpr hq)).elim
  refine br_f (by decide) (xq_hasInput (by omega) d1 d3' (fun q => br_f (by decide) (goY _ ?_)) (fun q => br_t rfl ⟨pk_in made 41 (by omega), ?_⟩))
  · exact ym_inp14 d1 d4' (fun _ => ⟨rfl, I'⟩) (fun q' => (q' ((hsame _).mpr q)).elim) (fun q' => (q' ((hsame _).mpr q)).elim)
  · rw [emc]
    have e3 : nI made * 3 + a_inputCount made = nI (3 * made + di) := by rw [d3']; exact xb_3 made di
    refine pk_eq di 3 (fun e => goY _ (ym_inp14 d1 d4' (fun q' => (q ((hsame _).mp q')).elim) (fun _ _ => ⟨rfl, I'⟩) (fun _ q' => by omega))) (fun e => ⟨pk_in made 41 (by omega), nm_r e3 ⟨pk_in (3 * made + di) 123 (by omega), nm_r (by rw [pk_cl (x := nI (3 * made + di)) (3 * made + di)]) ⟨pk_in (3 * made + di) 123 (by omega), nm_r (by rw [pk_cl (x := nI (3 * made + di)) (3 * made + di)]) ⟨pk_in (3 * made + di) 123 (by omega), nm_r (by rw [pk_cl (x := nI (3 * made + di)) (3 * made + di)]) ⟨pk_in made 41 (by omega), pk_in made 41 (by omega), nm_r (by rw [d3', nI_1]) ⟨pk_in made 41 (by omega), goY _ ?_⟩⟩⟩⟩⟩⟩) d3'
    rw [pk_us]
    refine ym_inp14 d1 d4' (fun q' => (q ((hsame _).mp q')).elim) (fun _ q' => by omega) (fun _ _ => ⟨rfl, ?_⟩)
    have a := ag_inp (x := nI (di + 1)) (y := nI c) (z := v2) (q := v3) w (tt := made) (p := 3 * made + di) (Nat.le_refl _) (by omega)
    exact rl_mk w a tk (pd_ag_trans (pd_ag_symm a) (pd_ag_trans ag (ag_inp wE (by omega) (by omega)))) fq rq hp0 us (df_inp w hc hq (by omega) d3' q df) (pu_io pu) (fr_io fr) B RD eh hn hl P hS
theorem i_vc_output {k : Nat} {u : SX} {v : SY} (I : i_Rel k u v) (hk : k + 4 ≤ 2048) (v1 : Int32) (v2 : Int32) : wpX_output (fun r u' => wpY_output (fun r' v' => r' = r ∧ i_Rel (k + 4) u' v') v v1 v2) u v1 v2 := by
  obtain ⟨f_stackSize, f_transactions, f_putCount, f_blocks, f_tip, f_poolCount, f_queueCount, a_tokenCount, a_tokenOp, a_tokenValue, a_scriptInUse, a_stack, a_inputCount, a_inputCoin, a_inputA, a_inputB, a_outputCount, a_outputAmount, a_outputScript, a_feeOf, a_putRow, a_parentOf, a_heightOf, a_chainWork, a_blockState, a_rewardAmount, a_rewardScript, a_blockSize, a_blockTransaction, a_laidBlock, a_coinHeight, a_coinSpent, a_transactionHeight, a_poolRow, a_marked, a_queue⟩ := u
  obtain ⟨g_made, g_blocks, g_arrivals, g_tip, g_pooled, g_chainLength, b_op, b_arg, b_length, b_ins, b_inCoin, b_inA, b_inB, b_outs, b_amount, b_lock, b_parent, b_work, b_rewardLock, b_height, b_many, b_holds, b_delivered, b_arrived, b_pool, b_chain, b_from, b_worth, b_within, b_spent, b_stack, b_again, b_chosen⟩ := v
  have I' := I
  obtain ⟨made, blocks, tp, n, np, pc, ar, ⟨rfl, rfl, rfl, rfl, rfl⟩, ⟨rfl, rfl, rfl, rfl, rfl⟩, ⟨rfl, rfl, rfl, rfl⟩, ⟨rfl, rfl, rfl⟩, ST, B, RD, ⟨eh, hn⟩, hl, P, hS⟩ := I
  obtain ⟨tk, w, ag, fq, rq, hp0, us, df, pu, fr⟩ := ST
  have hm := w.2.2.1
  have wE := pd_wf_ag w ag
  have df' := df
  obtain ⟨di, od, d1, d2, d3, d4, d5, d6, d7, d8, d9, d10⟩ := df'
  have d5' : a_outputCount made = nI od := d5
  have d6' : b_outs 40 = nI od := d6
  have emc : (nI made).toNatClampNeg = made := pk_cl made
  refine br_c (fun z => br_t z ⟨rfl, I'⟩) (fun z => br_c (fun z1 => br_f z (br_t z1 ⟨rfl, I'⟩)) (fun z1 => ?_))
  rcases pk_ix v2 (n := 8) (by omega) with h | h | ⟨s, hs, rfl⟩
  · exact br_t h (br_t rfl (br_f z (br_f z1 (br_t h (br_t rfl ⟨rfl, I'⟩)))))
  · have h0 : ¬ v2 < 0 := Int32.not_lt.mpr (Int32.le_trans (by decide) h)
    exact br_f h0 (br_t h (br_t rfl (br_f z (br_f z1 (br_f h0 (br_t h (br_t rfl ⟨rfl, I'⟩)))))))
  have s0 : ¬ nI s < 0 := nI_pos (by omega)
  have s8 : ¬ (8 : Int32) ≤ nI s := nI_ge (b := 8) hs (by omega)
  refine br_f s0 (br_f s8 (br_f (by decide) ⟨pk_in made 41 (by omega), ?_⟩))
  rw [emc]
  have e3 : nI made * 3 + a_outputCount made = nI (3 * made + od) := by rw [d5']; exact xb_3 made od
  have e120 : (120 : Int32) + b_outs 40 = nI (120 + od) := by rw [d6']; exact nI_add 120 od
  refine pk_eq od 3 (fun e => br_f z (br_f z1 (br_f s0 (br_f s8 (br_f (by decide) (br_t (by rw [d6', e]; rfl) ⟨rfl, I'⟩)))))) (fun e => ⟨pk_in made 41 (by omega), nm_r e3 ⟨pk_in (3 * made + od) 123 (by omega), nm_r (by rw [pk_cl (x := nI (3 * made + od)) (3 * made + od)]) ⟨pk_in (3 * made + od) 123 (by omega), nm_r (by rw [pk_cl (x := nI (3 * made + od)) (3 * made + od)]) ⟨pk_in made 41 (by omega), pk_in made 41 (by omega), nm_r (by rw [d5', nI_1]) ⟨pk_in made 41 (by omega), br_f z (br_f z1 (br_f s0 (br_f s8 (br_f (by decide) (br_f (by rw [d6']; intro q; exact e ((nI_eq (b := 3) (by omega) (by omega)).mp q)) (nm_r e120 ⟨pk_in (120 + od) 123 (by omega), nm_r (by rw [pk_cl (x := nI (120 + od)) (120 + od)]) ⟨pk_in (120 + od) 123 (by omega), nm_r (by rw [pk_cl (x := nI (120 + od)) (120 + od)]) (nm_r (by rw [d6', nI_1]) ⟨?_, ?_⟩)⟩⟩))))))⟩⟩⟩⟩⟩) d5'
  · rw [pk_us, pk_us]
  · have a := ag_out (x := nI (od + 1)) (y := v1) (z := nI s) w (tt := made) (p := 3 * made + od) (Nat.le_refl _) (by omega)
    exact rl_mk w a tk (pd_ag_trans (pd_ag_symm a) (pd_ag_trans ag (ag_out wE (by omega) (by omega)))) fq rq hp0 us (df_out w hs (by omega) d5' df) (pu_io pu) (fr_io fr) B RD eh hn hl P hS
