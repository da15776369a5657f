/-! input, output, put -/
theorem pd_ag_symm {D E : pd_D} {made blocks : Nat} (a : pd_ag D E made blocks) : pd_ag E D made blocks := by
  refine ⟨fun t ht => ?_, fun b hb => ?_, fun s hs => ?_⟩
  · obtain ⟨e1, e2, e3, e4, e5⟩ := a.1 t ht
    refine ⟨e1.symm, e2.symm, e3.symm, fun i hi => ?_, fun o ho => ?_⟩
    · rw [e1] at hi
      obtain ⟨q1, q2, q3⟩ := e4 i hi
      exact ⟨q1.symm, q2.symm, q3.symm⟩
    · rw [e2] at ho
      obtain ⟨q1, q2⟩ := e5 o ho
      exact ⟨q1.symm, q2.symm⟩
  · obtain ⟨e1, e2, e3, e4, e5, e6⟩ := a.2.1 b hb
    refine ⟨e1.symm, e2.symm, e3.symm, e4.symm, fun h => (e5 h).symm, fun i hi => ?_⟩
    rw [e3] at hi
    exact (e6 i hi).symm
  · rw [pd_used_ag a] at hs
    obtain ⟨e1, e2⟩ := a.2.2 s hs
    refine ⟨e1.symm, fun i hi => ?_⟩
    rw [e1] at hi
    obtain ⟨q1, q2⟩ := e2 i hi
    exact ⟨q1.symm, q2.symm⟩
theorem pd_ag_trans {D E F : pd_D} {made blocks : Nat} (a : pd_ag D E made blocks) (c : pd_ag E F made blocks) : pd_ag D F made blocks := by
  refine ⟨fun t ht => ?_, fun b hb => ?_, fun s hs => ?_⟩
  · obtain ⟨e1, e2, e3, e4, e5⟩ := a.1 t ht
    obtain ⟨f1, f2, f3, f4, f5⟩ := c.1 t ht
    rw [e1] at f4
    rw [e2] at f5
    refine ⟨f1.trans e1, f2.trans e2, f3.trans e3, fun i hi => ?_, fun o ho => ?_⟩
    · obtain ⟨q1, q2, q3⟩ := e4 i hi
      obtain ⟨r1, r2, r3⟩ := f4 i hi
      exact ⟨r1.trans q1, r2.trans q2, r3.trans q3⟩
    · obtain ⟨q1, q2⟩ := e5 o ho
      obtain ⟨r1, r2⟩ := f5 o ho
      exact ⟨r1.trans q1, r2.trans q2⟩
  · obtain ⟨e1, e2, e3, e4, e5, e6⟩ := a.2.1 b hb
    obtain ⟨f1, f2, f3, f4, f5, f6⟩ := c.2.1 b hb
    rw [e3] at f6
    exact ⟨f1.trans e1, f2.trans e2, f3.trans e3, f4.trans e4, fun h => (f5 h).trans (e5 h), fun i hi => (f6 i hi).trans (e6 i hi)⟩
  · obtain ⟨e1, e2⟩ := a.2.2 s hs
    obtain ⟨f1, f2⟩ := c.2.2 s ((pd_used_ag a).mpr hs)
    rw [e1] at f2
    refine ⟨f1.trans e1, fun i hi => ?_⟩
    obtain ⟨q1, q2⟩ := e2 i hi
    obtain ⟨r1, r2⟩ := f2 i hi
    exact ⟨r1.trans q1, r2.trans q2⟩
section
variable {f_stackSize f_transactions f_putCount f_blocks f_tip f_poolCount f_queueCount : Int32} {a_tokenCount a_tokenOp a_tokenValue a_scriptInUse a_stack a_inputCount a_inputCoin a_inputA a_inputB a_outputCount a_outputAmount a_outputScript a_feeOf a_putRow a_parentOf a_heightOf a_chainWork a_blockState a_rewardAmount a_rewardScript a_blockSize a_blockTransaction a_laidBlock a_coinHeight a_coinSpent a_transactionHeight a_poolRow a_marked a_queue : Nat → Int32}
theorem ag_inp {made blocks tt p : Nat} {x y z q : Int32} (w : pd_wf (a_tokenCount, a_tokenOp, a_tokenValue, a_inputCount, a_inputCoin, a_inputA, a_inputB, a_outputCount, a_outputAmount, a_outputScript, a_parentOf, a_heightOf, a_rewardScript, a_blockSize, a_blockTransaction, a_feeOf, a_rewardAmount) made blocks) (h1 : made ≤ tt) (h2 : 3 * made ≤ p) : pd_ag (a_tokenCount, a_tokenOp, a_tokenValue, a_inputCount, a_inputCoin, a_inputA, a_inputB, a_outputCount, a_outputAmount, a_outputScript, a_parentOf, a_heightOf, a_rewardScript, a_blockSize, a_blockTransaction, a_feeOf, a_rewardAmount) (a_tokenCount, a_tokenOp, a_tokenValue, upd a_inputCount tt x, upd a_inputCoin p y, upd a_inputA p z, upd a_inputB p q, a_outputCount, a_outputAmount, a_outputScript, a_parentOf, a_heightOf, a_rewardScript, a_blockSize, a_blockTransaction, a_feeOf, a_rewardAmount) made blocks := by
  refine ⟨fun t ht => ⟨pk_un (by omega), rfl, rfl, fun i hi => ?_, fun o ho => ⟨rfl, rfl⟩⟩, fun b hb => ⟨rfl, rfl, rfl, rfl, fun _ => rfl, fun _ _ => rfl⟩, fun s hs => ⟨rfl, fun _ _ => ⟨rfl, rfl⟩⟩⟩
  obtain ⟨n, hn, _, en, _⟩ := pd_view w ht
  exact ⟨pk_un (by omega), pk_un (by omega), pk_un (by omega)⟩
theorem ag_out {made blocks tt p : Nat} {x y z : Int32} (w : pd_wf (a_tokenCount, a_tokenOp, a_tokenValue, a_inputCount, a_inputCoin, a_inputA, a_inputB, a_outputCount, a_outputAmount, a_outputScript, a_parentOf, a_heightOf, a_rewardScript, a_blockSize, a_blockTransaction, a_feeOf, a_rewardAmount) made blocks) (h1 : made ≤ tt) (h2 : 3 * made ≤ p) : pd_ag (a_tokenCount, a_tokenOp, a_tokenValue, a_inputCount, a_inputCoin, a_inputA, a_inputB, a_outputCount, a_outputAmount, a_outputScript, a_parentOf, a_heightOf, a_rewardScript, a_blockSize, a_blockTransaction, a_feeOf, a_rewardAmount) (a_tokenCount, a_tokenOp, a_tokenValue, a_inputCount, a_inputCoin, a_inputA, a_inputB, upd a_outputCount tt x, upd a_outputAmount p y, upd a_outputScript p z, a_parentOf, a_heightOf, a_rewardScript, a_blockSize, a_blockTransaction, a_feeOf, a_rewardAmount) made blocks := by
  refine ⟨fun t ht => ⟨rfl, pk_un (by omega), rfl, fun i hi => ⟨rfl, rfl, rfl⟩, fun o ho => ?_⟩, fun b hb => ⟨rfl, rfl, rfl, rfl, fun _ => rfl, fun _ _ => rfl⟩, fun s hs => ⟨rfl, fun _ _ => ⟨rfl, rfl⟩⟩⟩
  obtain ⟨n, m, _, _, _, hm3, _, em, _⟩ := w.2.2.2.2.1 _ ht
  have emc := pd_cl em (by omega)
  exact ⟨pk_un (by omega), pk_un (by omega)⟩
theorem ag_put {made blocks p : Nat} {x y : Int32} (w : pd_wf (a_tokenCount, a_tokenOp, a_tokenValue, a_inputCount, a_inputCoin, a_inputA, a_inputB, a_outputCount, a_outputAmount, a_outputScript, a_parentOf, a_heightOf, a_rewardScript, a_blockSize, a_blockTransaction, a_feeOf, a_rewardAmount) made blocks) (h2 : 128 ≤ p) : pd_ag (a_tokenCount, a_tokenOp, a_tokenValue, a_inputCount, a_inputCoin, a_inputA, a_inputB, a_outputCount, a_outputAmount, a_outputScript, a_parentOf, a_heightOf, a_rewardScript, a_blockSize, a_blockTransaction, a_feeOf, a_rewardAmount) (a_tokenCount, a_tokenOp, a_tokenValue, a_inputCount, a_inputCoin, a_inputA, a_inputB, a_outputCount, a_outputAmount, a_outputScript, a_parentOf, a_heightOf, a_rewardScript, upd a_blockSize 32 x, upd a_blockTransaction p y, a_feeOf, a_rewardAmount) made blocks := by
  have hbk := w.2.1
  refine ⟨fun t ht => ⟨rfl, rfl, rfl, fun i hi => ⟨rfl, rfl, rfl⟩, fun o ho => ⟨rfl, rfl⟩⟩, fun b hb => ⟨rfl, rfl, pk_un (by omega), rfl, fun _ => rfl, fun i hi => ?_⟩, fun s hs => ⟨rfl, fun _ _ => ⟨rfl, rfl⟩⟩⟩
  obtain ⟨_, _, ⟨n, hn, en, _⟩, _⟩ := w.2.2.2.2.2 b hb
  have enc := pd_cl en (by omega)
  exact pk_un (by omega)
theorem xq_coin {made blocks : Nat} {x : Int32} (w : pd_wf (a_tokenCount, a_tokenOp, a_tokenValue, a_inputCount, a_inputCoin, a_inputA, a_inputB, a_outputCount, a_outputAmount, a_outputScript, a_parentOf, a_heightOf, a_rewardScript, a_blockSize, a_blockTransaction, a_feeOf, a_rewardAmount) made blocks) {post : Int32 → Prop} (H1 : ∀ c, c < 152 → x = nI c → pd_coin (a_tokenCount, a_tokenOp, a_tokenValue, a_inputCount, a_inputCoin, a_inputA, a_inputB, a_outputCount, a_outputAmount, a_outputScript, a_parentOf, a_heightOf, a_rewardScript, a_blockSize, a_blockTransaction, a_feeOf, a_rewardAmount) made blocks c → post 1) (H0 : (∀ c, c < 152 → x = nI c → ¬ pd_coin (a_tokenCount, a_tokenOp, a_tokenValue, a_inputCount, a_inputCoin, a_inputA, a_inputB, a_outputCount, a_outputAmount, a_outputScript, a_parentOf, a_heightOf, a_rewardScript, a_blockSize, a_blockTransaction, a_feeOf, a_rewardAmount) made blocks c) → post 0) : wpX_isCoin post (f_stackSize, nI made, f_putCount, nI blocks, f_tip, f_poolCount, f_queueCount, a_tokenCount, a_tokenOp, a_tokenValue, a_scriptInUse, a_stack, a_inputCount, a_inputCoin, a_inputA, a_inputB, a_outputCount, a_outputAmount, a_outputScript, a_feeOf, a_putRow, a_parentOf, a_heightOf, a_chainWork, a_blockState, a_rewardAmount, a_rewardScript, a_blockSize, a_blockTransaction, a_laidBlock, a_coinHeight, a_coinSpent, a_transactionHeight, a_poolRow, a_marked, a_queue) x := by
  have hm := w.2.2.1
  have hbk := w.2.1
  by_cases hx : x < 0
  · exact br_f (Int32.not_le.mpr hx) (H0 fun c hc e => by rw [e] at hx; exact (nI_pos (by omega) hx).elim)
  obtain ⟨c, hc, rfl⟩ := nI_of hx
  refine br_t (Int32.not_lt.mp hx) (pk_lt c 120 (fun z => ⟨by decide, ?_⟩) (fun z => ?_))
  · have e3 : nI c / 3 = nI (c / 3) := pk_div (d := 3) (by omega) (by omega) (by omega)
    have er : nI c - nI c / 3 * 3 = nI (c % 3) := pk_rem (d := 3) (by omega) (by omega) (by omega)
    rw [er, e3]
    have hno : ¬ (c / 3 < made ∧ c % 3 < (a_outputCount (c / 3)).toNatClampNeg) → post 0 := fun q => H0 fun c' hc' e' => by
      rw [nI_eq (by omega) (by omega)] at e'
      subst e'
      rintro (⟨_, q2, q3⟩ | ⟨q1, _⟩)
      · exact q ⟨q2, q3⟩
      · omega
    refine pk_le made (c / 3) (fun z1 => hno fun q => by omega) (fun z1 => ⟨by decide, by decide, pk_in (c / 3) 41 (by omega), ?_⟩)
    obtain ⟨_, m, _, _, _, hm3, _, em, _⟩ := w.2.2.2.2.1 _ z1
    have em' : a_outputCount (c / 3) = nI m := em
    have emc : (a_outputCount (c / 3)).toNatClampNeg = m := pd_cl em' (by omega)
    rw [pk_cl (x := nI (c / 3)) (c / 3), em']
    exact pk_le m (c % 3) (fun z2 => hno fun q => by omega) (fun z2 => H1 c (by omega) rfl (Or.inl ⟨z, z1, by show c % 3 < (a_outputCount (c / 3)).toNatClampNeg; omega⟩))
  · have ex : nI c - 120 = nI (c - 120) := pk_sub (b := 120) z
    rw [ex]
    refine pk_le blocks (c - 120) (fun z1 => H0 fun c' hc' e' => ?_) (fun z1 => H1 c (by omega) rfl (Or.inr ⟨z, z1⟩))
    rw [nI_eq (by omega) (by omega)] at e'
    subst e'
    rintro (⟨q1, _⟩ | ⟨_, q2⟩) <;> omega
end
section
variable {g_made g_blocks g_arrivals g_tip g_pooled g_chainLength : Int32} {b_op b_arg b_length b_ins b_inCoin b_inA b_inB b_outs b_amount b_lock b_parent b_work b_rewardLock b_height b_many b_holds b_delivered b_arrived b_pool b_chain b_from b_worth b_within b_spent b_stack b_again b_chosen gfe grw : Nat → Int32}
theorem yq_coin {made blocks : Nat} {x : Int32} (w : pd_wf (b_length, b_op, b_arg, b_ins, b_inCoin, b_inA, b_inB, b_outs, b_amount, b_lock, b_parent, b_height, b_rewardLock, b_many, b_holds, gfe, grw) made blocks) {post : Int32 → Prop} (H1 : ∀ c, c < 152 → x = nI c → pd_coin (b_length, b_op, b_arg, b_ins, b_inCoin, b_inA, b_inB, b_outs, b_amount, b_lock, b_parent, b_height, b_rewardLock, b_many, b_holds, gfe, grw) made blocks c → post 1) (H0 : (∀ c, c < 152 → x = nI c → ¬ pd_coin (b_length, b_op, b_arg, b_ins, b_inCoin, b_inA, b_inB, b_outs, b_amount, b_lock, b_parent, b_height, b_rewardLock, b_many, b_holds, gfe, grw) made blocks c) → post 0) : wpY_isCoin post (nI made, nI blocks, g_arrivals, g_tip, g_pooled, g_chainLength, b_op, b_arg, b_length, b_ins, b_inCoin, b_inA, b_inB, b_outs, b_amount, b_lock, b_parent, b_work, b_rewardLock, b_height, b_many, b_holds, b_delivered, b_arrived, b_pool, b_chain, b_from, b_worth, b_within, b_spent, b_stack, b_again, b_chosen) x := by
  have hm := w.2.2.1
  have hbk := w.2.1
  unfold wpY_isCoin
  dsimp only
  refine yq_in (n := 152) (by omega) (fun h => br_t rfl (H0 fun c hc e => ?_)) (fun c hc e => br_f (by decide) ?_)
  · subst e
    rcases h with h | h
    · exact (nI_pos (by omega) h).elim
    · exact (nI_ge hc (by omega) h).elim
  subst e
  refine pk_le 120 c (fun z => ?_) (fun z => ⟨by decide, ?_⟩)
  · have ex : nI c - 120 = nI (c - 120) := pk_sub (b := 120) z
    rw [ex]
    refine pk_le blocks (c - 120) (fun z1 => H0 fun c' hc' e' => ?_) (fun z1 => H1 c (by omega) rfl (Or.inr ⟨z, z1⟩))
    rw [nI_eq (by omega) (by omega)] at e'
    subst e'
    rintro (⟨q1, _⟩ | ⟨_, q2⟩) <;> omega
  · have e3 : nI c / 3 = nI (c / 3) := pk_div (d := 3) (by omega) (by omega) (by omega)
    have er : nI c - nI c / 3 * 3 = nI (c % 3) := pk_rem (d := 3) (by omega) (by omega) (by omega)
    rw [er, e3]
    have hno : ¬ (c / 3 < made ∧ c % 3 < (b_outs (c / 3)).toNatClampNeg) → post 0 := fun q => H0 fun c' hc' e' => by
      rw [nI_eq (by omega) (by omega)] at e'
      subst e'
      rintro (⟨_, q2, q3⟩ | ⟨q1, _⟩)
      · exact q ⟨q2, q3⟩
      · omega
    refine pk_le made (c / 3) (fun z1 => hno fun q => by omega) (fun z1 => ⟨by decide, by decide, pk_in (c / 3) 41 (by omega), ?_⟩)
    obtain ⟨_, m, _, _, _, hm3, _, em, _⟩ := w.2.2.2.2.1 _ z1
    have em' : b_outs (c / 3) = nI m := em
    have emc : (b_outs (c / 3)).toNatClampNeg = m := pd_cl em' (by omega)
    rw [pk_cl (x := nI (c / 3)) (c / 3), em']
    exact pk_le m (c % 3) (fun z2 => hno fun q => by omega) (fun z2 => H1 c (by omega) rfl (Or.inl ⟨z, z1, by show c % 3 < (b_outs (c / 3)).toNatClampNeg; omega⟩))
theorem ym_inp14 {di : Nat} {x1 x2 x3 : Int32} (hdi : di ≤ 3) (ed : b_ins 40 = nI di) {post : Int32 → SY → Prop} (H1 : (∃ i, i < di ∧ b_inCoin (120 + i) = x1) → post (-1) (g_made, g_blocks, g_arrivals, g_tip, g_pooled, g_chainLength, b_op, b_arg, b_length, b_ins, b_inCoin, b_inA, b_inB, b_outs, b_amount, b_lock, b_parent, b_work, b_rewardLock, b_height, b_many, b_holds, b_delivered, b_arrived, b_pool, b_chain, b_from, b_worth, b_within, b_spent, b_stack, b_again, b_chosen))
    (H5 : ¬ (∃ i, i < di ∧ b_inCoin (120 + i) = x1) → di = 3 → post (-5) (g_made, g_blocks, g_arrivals, g_tip, g_pooled, g_chainLength, b_op, b_arg, b_length, b_ins, b_inCoin, b_inA, b_inB, b_outs, b_amount, b_lock, b_parent, b_work, b_rewardLock, b_height, b_many, b_holds, b_delivered, b_arrived, b_pool, b_chain, b_from, b_worth, b_within, b_spent, b_stack, b_again, b_chosen))
    (H0 : ¬ (∃ i, i < di ∧ b_inCoin (120 + i) = x1) → di < 3 → post (nI (di + 1)) (g_made, g_blocks, g_arrivals, g_tip, g_pooled, g_chainLength, b_op, b_arg, b_length, upd b_ins 40 (nI (di + 1)), upd b_inCoin (120 + di) x1, upd b_inA (120 + di) x2, upd b_inB (120 + di) x3, b_outs, b_amount, b_lock, b_parent, b_work, b_rewardLock, b_height, b_many, b_holds, b_delivered, b_arrived, b_pool, b_chain, b_from, b_worth, b_within, b_spent, b_stack, b_again, b_chosen)) : ∃ fuel, wY_input_14 post x1 x2 x3 g_made g_blocks g_arrivals g_tip g_pooled g_chainLength b_op b_arg b_length b_ins b_inCoin b_inA b_inB b_outs b_amount b_lock b_parent b_work b_rewardLock b_height b_many b_holds b_delivered b_arrived b_pool b_chain b_from b_worth b_within b_spent b_stack b_again b_chosen fuel 120 := by
  have e120 : (120 : Int32) + b_ins 40 = nI (120 + di) := by rw [ed]; exact nI_add 120 di
  have key : ∀ (d i fuel : Nat), i + d = di → d < fuel → (∀ j, j < i → b_inCoin (120 + j) ≠ x1) → wY_input_14 post x1 x2 x3 g_made g_blocks g_arrivals g_tip g_pooled g_chainLength b_op b_arg b_length b_ins b_inCoin b_inA b_inB b_outs b_amount b_lock b_parent b_work b_rewardLock b_height b_many b_holds b_delivered b_arrived b_pool b_chain b_from b_worth b_within b_spent b_stack b_again b_chosen fuel (nI (120 + i)) := by
    intro d
    induction d with
    | zero =>
      intro i fuel hi hf hno
      obtain ⟨fuel, rfl⟩ : ∃ q, fuel = q + 1 := ⟨fuel - 1, by omega⟩
      obtain rfl : i = di := by omega
      have hno' : ¬ (∃ j, j < i ∧ b_inCoin (120 + j) = x1) := fun ⟨j, h1, h2⟩ => hno j h1 h2
      refine br_t (by rw [e120]; exact nI_le (Nat.le_refl _) (by omega)) (pk_eq i 3 (fun e => H5 hno' e) (fun e => nm_r e120 ⟨pk_in (120 + i) 123 (by omega), nm_r (by rw [pk_cl (x := nI (120 + i)) (120 + i)]) ⟨pk_in (120 + i) 123 (by omega), nm_r (by rw [pk_cl (x := nI (120 + i)) (120 + i)]) ⟨pk_in (120 + i) 123 (by omega), nm_r (by rw [pk_cl (x := nI (120 + i)) (120 + i)]) (nm_r (by rw [ed, nI_1]) ?_)⟩⟩⟩) ed)
      rw [pk_us]; exact H0 hno' (by omega)
    | succ d ih =>
      intro i fuel hi hf hno
      obtain ⟨fuel, rfl⟩ : ∃ q, fuel = q + 1 := ⟨fuel - 1, by omega⟩
      refine pk_le (120 + di) (120 + i) (fun z => by omega) (fun z => ⟨pk_in (120 + i) 123 (by omega), ?_⟩) e120
      rw [pk_cl (x := nI (120 + i)) (120 + i)]
      refine br_c (fun q => H1 ⟨i, by omega, q⟩) (fun q => nm_r (nI_1 (120 + i)) (ih (i + 1) fuel (by omega) (by omega) fun j hj => ?_))
      by_cases e : j = i
      · rw [e]; exact q
      · exact hno j (by omega)
  exact ⟨di + 1, key di 0 (di + 1) (by omega) (by omega) (fun j hj => by omega)⟩
theorem ym_put17 {pc : Nat} {x1 : Int32} (hpc : pc ≤ 4) (ed : b_many 32 = nI pc) {post : Int32 → SY → Prop} (H1 : (∃ i, i < pc ∧ b_holds (128 + i) = x1) → post (-1) (g_made, g_blocks, g_arrivals, g_tip, g_pooled, g_chainLength, b_op, b_arg, b_length, b_ins, b_inCoin, b_inA, b_inB, b_outs, b_amount, b_lock, b_parent, b_work, b_rewardLock, b_height, b_many, b_holds, b_delivered, b_arrived, b_pool, b_chain, b_from, b_worth, b_within, b_spent, b_stack, b_again, b_chosen))
    (H5 : ¬ (∃ i, i < pc ∧ b_holds (128 + i) = x1) → pc = 4 → post (-5) (g_made, g_blocks, g_arrivals, g_tip, g_pooled, g_chainLength, b_op, b_arg, b_length, b_ins, b_inCoin, b_inA, b_inB, b_outs, b_amount, b_lock, b_parent, b_work, b_rewardLock, b_height, b_many, b_holds, b_delivered, b_arrived, b_pool, b_chain, b_from, b_worth, b_within, b_spent, b_stack, b_again, b_chosen))
    (H0 : ¬ (∃ i, i < pc ∧ b_holds (128 + i) = x1) → pc < 4 → post (nI (pc + 1)) (g_made, g_blocks, g_arrivals, g_tip, g_pooled, g_chainLength, b_op, b_arg, b_length, b_ins, b_inCoin, b_inA, b_inB, b_outs, b_amount, b_lock, b_parent, b_work, b_rewardLock, b_height, upd b_many 32 (nI (pc + 1)), upd b_holds (128 + pc) x1, b_delivered, b_arrived, b_pool, b_chain, b_from, b_worth, b_within, b_spent, b_stack, b_again, b_chosen)) : ∃ fuel, wY_put_17 post x1 g_made g_blocks g_arrivals g_tip g_pooled g_chainLength b_op b_arg b_length b_ins b_inCoin b_inA b_inB b_outs b_amount b_lock b_parent b_work b_rewardLock b_height b_many b_holds b_delivered b_arrived b_pool b_chain b_from b_worth b_within b_spent b_stack b_again b_chosen fuel 128 := by
  have e128 : (128 : Int32) + b_many 32 = nI (128 + pc) := by rw [ed]; exact nI_add 128 pc
  have key : ∀ (d i fuel : Nat), i + d = pc → d < fuel → (∀ j, j < i → b_holds (128 + j) ≠ x1) → wY_put_17 post x1 g_made g_blocks g_arrivals g_tip g_pooled g_chainLength b_op b_arg b_length b_ins b_inCoin b_inA b_inB b_outs b_amount b_lock b_parent b_work b_rewardLock b_height b_many b_holds b_delivered b_arrived b_pool b_chain b_from b_worth b_within b_spent b_stack b_again b_chosen fuel (nI (128 + i)) := by
    intro d
    induction d with
    | zero =>
      intro i fuel hi hf hno
      obtain ⟨fuel, rfl⟩ : ∃ q, fuel = q + 1 := ⟨fuel - 1, by omega⟩
      obtain rfl : i = pc := by omega
      have hno' : ¬ (∃ j, j < i ∧ b_holds (128 + j) = x1) := fun ⟨j, h1, h2⟩ => hno j h1 h2
      refine br_t (by rw [e128]; exact nI_le (Nat.le_refl _) (by omega)) (pk_eq i 4 (fun e => H5 hno' e) (fun e => ⟨pk_in (128 + i) 132 (by omega) e128, nm_r (by rw [pk_cl (128 + i) e128]) (nm_r (by rw [ed, nI_1]) ?_)⟩) ed)
      rw [pk_us]; exact H0 hno' (by omega)
    | succ d ih =>
      intro i fuel hi hf hno
      obtain ⟨fuel, rfl⟩ : ∃ q, fuel = q + 1 := ⟨fuel - 1, by omega⟩
      refine pk_le (128 + pc) (128 + i) (fun z => by omega) (fun z => ⟨pk_in (128 + i) 132 (by omega), ?_⟩) e128
      rw [pk_cl (x := nI (128 + i)) (128 + i)]
      refine br_c (fun q => H1 ⟨i, by omega, q⟩) (fun q => nm_r (nI_1 (128 + i)) (ih (i + 1) fuel (by omega) (by omega) fun j hj => ?_))
      by_cases e : j = i
      · rw [e]; exact q
      · exact hno j (by omega)
  exact ⟨pc + 1, key pc 0 (pc + 1) (by omega) (by omega) (fun j hj => by omega)⟩
end
section
variable {f_stackSize f_transactions f_putCount f_blocks f_tip f_poolCount f_queueCount : Int32} {a_tokenCount a_tokenOp a_tokenValue a_scriptInUse a_stack a_inputCount a_inputCoin a_inputA a_inputB a_outputCount a_outputAmount a_outputScript a_feeOf a_putRow a_parentOf a_heightOf a_chainWork a_blockState a_rewardAmount a_rewardScript a_blockSize a_blockTransaction a_laidBlock a_coinHeight a_coinSpent a_transactionHeight a_poolRow a_marked a_queue : Nat → Int32}
theorem xm_put12 {pc : Nat} {x1 : Int32} (hpc : pc ≤ 4) {post : Int32 → SX → Prop} (H1 : (∃ i, i < pc ∧ a_putRow i = x1) → post (-1) (f_stackSize, f_transactions, nI pc, f_blocks, f_tip, f_poolCount, f_queueCount, a_tokenCount, a_tokenOp, a_tokenValue, a_scriptInUse, a_stack, a_inputCount, a_inputCoin, a_inputA, a_inputB, a_outputCount, a_outputAmount, a_outputScript, a_feeOf, a_putRow, a_parentOf, a_heightOf, a_chainWork, a_blockState, a_rewardAmount, a_rewardScript, a_blockSize, a_blockTransaction, a_laidBlock, a_coinHeight, a_coinSpent, a_transactionHeight, a_poolRow, a_marked, a_queue))
    (H5 : ¬ (∃ i, i < pc ∧ a_putRow i = x1) → pc = 4 → post (-5) (f_stackSize, f_transactions, nI pc, f_blocks, f_tip, f_poolCount, f_queueCount, a_tokenCount, a_tokenOp, a_tokenValue, a_scriptInUse, a_stack, a_inputCount, a_inputCoin, a_inputA, a_inputB, a_outputCount, a_outputAmount, a_outputScript, a_feeOf, a_putRow, a_parentOf, a_heightOf, a_chainWork, a_blockState, a_rewardAmount, a_rewardScript, a_blockSize, a_blockTransaction, a_laidBlock, a_coinHeight, a_coinSpent, a_transactionHeight, a_poolRow, a_marked, a_queue))
    (H0 : ¬ (∃ i, i < pc ∧ a_putRow i = x1) → pc < 4 → post (nI (pc + 1)) (f_stackSize, f_transactions, nI (pc + 1), f_blocks, f_tip, f_poolCount, f_queueCount, a_tokenCount, a_tokenOp, a_tokenValue, a_scriptInUse, a_stack, a_inputCount, a_inputCoin, a_inputA, a_inputB, a_outputCount, a_outputAmount, a_outputScript, a_feeOf, upd a_putRow pc x1, a_parentOf, a_heightOf, a_chainWork, a_blockState, a_rewardAmount, a_rewardScript, a_blockSize, a_blockTransaction, a_laidBlock, a_coinHeight, a_coinSpent, a_transactionHeight, a_poolRow, a_marked, a_queue)) : ∃ fuel, wX_put_12 post x1 f_stackSize f_transactions (nI pc) f_blocks f_tip f_poolCount f_queueCount a_tokenCount a_tokenOp a_tokenValue a_scriptInUse a_stack a_inputCount a_inputCoin a_inputA a_inputB a_outputCount a_outputAmount a_outputScript a_feeOf a_putRow a_parentOf a_heightOf a_chainWork a_blockState a_rewardAmount a_rewardScript a_blockSize a_blockTransaction a_laidBlock a_coinHeight a_coinSpent a_transactionHeight a_poolRow a_marked a_queue fuel 0 := by
  have key : ∀ (d i fuel : Nat), i + d = pc → d < fuel → (∀ j, j < i → a_putRow j ≠ x1) → wX_put_12 post x1 f_stackSize f_transactions (nI pc) f_blocks f_tip f_poolCount f_queueCount a_tokenCount a_tokenOp a_tokenValue a_scriptInUse a_stack a_inputCount a_inputCoin a_inputA a_inputB a_outputCount a_outputAmount a_outputScript a_feeOf a_putRow a_parentOf a_heightOf a_chainWork a_blockState a_rewardAmount a_rewardScript a_blockSize a_blockTransaction a_laidBlock a_coinHeight a_coinSpent a_transactionHeight a_poolRow a_marked a_queue fuel (nI i) := by
    intro d
    induction d with
    | zero =>
      intro i fuel hi hf hno
      obtain ⟨fuel, rfl⟩ : ∃ q, fuel = q + 1 := ⟨fuel - 1, by omega⟩
      obtain rfl : i = pc := by omega
      have hno' : ¬ (∃ j, j < i ∧ a_putRow j = x1) := fun ⟨j, h1, h2⟩ => hno j h1 h2
      exact br_t (nI_le (Nat.le_refl _) (by omega)) (pk_eq i 4 (fun e => H5 hno' e) (fun e => ⟨pk_in i 4 (by omega), nm_r (by rw [pk_cl i]) (nm_r (nI_1 i) (H0 hno' (by omega)))⟩))
    | succ d ih =>
      intro i fuel hi hf hno
      obtain ⟨fuel, rfl⟩ : ∃ q, fuel = q + 1 := ⟨fuel - 1, by omega⟩
      refine pk_le pc i (fun z => by omega) (fun z => ⟨pk_in i 4 (by omega), ?_⟩)
      rw [pk_cl i]
      refine br_c (fun q => H1 ⟨i, by omega, q⟩) (fun q => nm_r (nI_1 i) (ih (i + 1) fuel (by omega) (by omega) fun j hj => ?_))
      by_cases e : j = i
      · rw [e]; exact q
      · exact hno j (by omega)
  exact ⟨pc + 1, key pc 0 (pc + 1) (by omega) (by omega) (fun j hj => by omega)⟩
end
section
variable {g_made g_blocks g_arrivals g_tip g_pooled g_chainLength : Int32} {b_op b_arg b_length b_ins b_inCoin b_inA b_inB b_outs b_amount b_lock b_parent b_work b_rewardLock b_height b_many b_holds b_delivered b_arrived b_pool b_chain b_from b_worth b_within b_spent b_stack b_again b_chosen gfe grw : Nat → Int32}
theorem df_mh {D : pd_D} {made blocks : Nat} {mm hh : Nat → Int32} (h : cn_drf D (b_length, b_op, b_arg, b_ins, b_inCoin, b_inA, b_inB, b_outs, b_amount, b_lock, b_parent, b_height, b_rewardLock, b_many, b_holds, gfe, grw) made blocks) : cn_drf D (b_length, b_op, b_arg, b_ins, b_inCoin, b_inA, b_inB, b_outs, b_amount, b_lock, b_parent, b_height, b_rewardLock, mm, hh, gfe, grw) made blocks := h
theorem pu_io {D D' : pd_D} {made pc : Nat} {pr c1 c2 c3 c4 c5 c6 c7 : Nat → Int32} (h : cn_put D (b_length, b_op, b_arg, b_ins, b_inCoin, b_inA, b_inB, b_outs, b_amount, b_lock, b_parent, b_height, b_rewardLock, b_many, b_holds, gfe, grw) pr made pc) : cn_put D' (b_length, b_op, b_arg, c1, c2, c3, c4, c5, c6, c7, b_parent, b_height, b_rewardLock, b_many, b_holds, gfe, grw) pr made pc := h
end
section
variable {f_stackSize f_transactions f_putCount f_blocks f_tip f_poolCount f_queueCount : Int32} {a_tokenCount a_tokenOp a_tokenValue a_scriptInUse a_stack a_inputCount a_inputCoin a_inputA a_inputB a_outputCount a_outputAmount a_outputScript a_feeOf a_putRow a_parentOf a_heightOf a_chainWork a_blockState a_rewardAmount a_rewardScript a_blockSize a_blockTransaction a_laidBlock a_coinHeight a_coinSpent a_transactionHeight a_poolRow a_marked a_queue : Nat → Int32}
theorem fr_io {blocks : Nat} {c1 c2 c3 c4 c5 c6 c7 : Nat → Int32} (h : cn_fre (a_tokenCount, a_tokenOp, a_tokenValue, a_inputCount, a_inputCoin, a_inputA, a_inputB, a_outputCount, a_outputAmount, a_outputScript, a_parentOf, a_heightOf, a_rewardScript, a_blockSize, a_blockTransaction, a_feeOf, a_rewardAmount) blocks) : cn_fre (a_tokenCount, a_tokenOp, a_tokenValue, c1, c2, c3, c4, c5, c6, c7, a_parentOf, a_heightOf, a_rewardScript, a_blockSize, a_blockTransaction, a_feeOf, a_rewardAmount) blocks := h
end
theorem i_vc_put {k : Nat} {u : SX} {v : SY} (I : i_Rel k u v) (hk : k + 4 ≤ 2048) (v1 : Int32) : wpX_put (fun r u' => wpY_put (fun r' v' => r' = r ∧ i_Rel (k + 4) u' v') v v1) u v1 := by
  obtain ⟨f_stackSize, f_transactions, f_putCount, f_blocks, f_tip, f_poolCount, f_queueCount, a_tokenCount, a_tokenOp, a_tokenValue, a_scriptInUse, a_stack, a_inputCount, a_inputCoin, a_inputA, a_inputB, a_outputCount, a_outputAmount, a_outputScript, a_feeOf, a_putRow, a_parentOf, a_heightOf, a_chainWork, a_blockState, a_rewardAmount, a_rewardScript, a_blockSize, a_blockTransaction, a_laidBlock, a_coinHeight, a_coinSpent, a_transactionHeight, a_poolRow, a_marked, a_queue⟩ := u
  obtain ⟨g_made, g_blocks, g_arrivals, g_tip, g_pooled, g_chainLength, b_op, b_arg, b_length, b_ins, b_inCoin, b_inA, b_inB, b_outs, b_amount, b_lock, b_parent, b_work, b_rewardLock, b_height, b_many, b_holds, b_delivered, b_arrived, b_pool, b_chain, b_from, b_worth, b_within, b_spent, b_stack, b_again, b_chosen⟩ := v
  have I' := I
  obtain ⟨made, blocks, tp, n, np, pc, ar, ⟨rfl, rfl, rfl, rfl, rfl⟩, ⟨rfl, rfl, rfl, rfl, rfl⟩, ⟨rfl, rfl, rfl, rfl⟩, ⟨rfl, rfl, rfl⟩, ST, B, RD, ⟨eh, hn⟩, hl, P, hS⟩ := I
  obtain ⟨tk, w, ag, fq, rq, hp0, us, df, pu, fr⟩ := ST
  have hm := w.2.2.1
  obtain ⟨hpc, epc, hpr⟩ := pu
  have epc' : b_many 32 = nI pc := epc
  have hsame : ∀ x : Int32, (∃ i, i < pc ∧ b_holds (128 + i) = x) ↔ (∃ i, i < pc ∧ a_putRow i = x) := fun x => exists_congr fun i => and_congr_right fun hi => by
    rw [(hpr i hi).1]
  rcases pk_ix v1 (n := made) (by omega) with h | h | ⟨t, ht, rfl⟩
  · exact br_t h (br_t rfl (br_t h (br_t rfl ⟨rfl, I'⟩)))
  · have h0 : ¬ v1 < 0 := Int32.not_lt.mpr (Int32.le_trans (nI_pos' (by omega)) h)
    exact br_f h0 (br_t h (br_t rfl (br_f h0 (br_t h (br_t rfl ⟨rfl, I'⟩)))))
  have t0 : ¬ nI t < 0 := nI_pos (by omega)
  have t1 : ¬ nI made ≤ nI t := nI_ge ht (by omega)
  refine br_f t0 (br_f t1 (br_f (by decide) (xm_put12 hpc (fun q => ?_) (fun q e => ?_) (fun q e => ?_))))
  · exact br_f t0 (br_f t1 (br_f (by decide) (ym_put17 hpc epc' (fun _ => ⟨rfl, I'⟩) (fun q' => (q' ((hsame _).mpr q)).elim) (fun q' => (q' ((hsame _).mpr q)).elim))))
  · exact br_f t0 (br_f t1 (br_f (by decide) (ym_put17 hpc epc' (fun q' => (q ((hsame _).mp q')).elim) (fun _ _ => ⟨rfl, I'⟩) (fun _ q' => by omega))))
  · refine br_f t0 (br_f t1 (br_f (by decide) (ym_put17 hpc epc' (fun q' => (q ((hsame _).mp q')).elim) (fun _ q' => by omega) (fun _ _ => ⟨rfl, ?_⟩))))
    refine rl_mk w (pd_ag_refl _ _ _) tk (pd_ag_trans ag (ag_put (pd_wf_ag w ag) (by omega))) fq rq hp0 us (df_mh df) ⟨by omega, (pk_us : upd b_many 32 (nI (pc + 1)) 32 = nI (pc + 1)), fun i hi => ?_⟩ fr B RD eh hn hl P hS
    by_cases e1 : i = pc
    · subst e1
      refine ⟨?_, t, ht, pk_us⟩
      rw [pk_us]
      exact (pk_us : upd b_holds (128 + i) (nI t) (128 + i) = nI t).symm
    · obtain ⟨h1, t', h2, h3⟩ := hpr i (by omega)
      refine ⟨?_, t', h2, by rw [pk_un e1]; exact h3⟩
      rw [pk_un e1, h1]
      exact (pk_un (by omega) : upd b_holds (128 + pc) (nI t) (128 + i) = b_holds (128 + i)).symm
