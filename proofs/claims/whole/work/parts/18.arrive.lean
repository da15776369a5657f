/-! a block arrives -/
def cn_one (D : pd_D) (st dl av : pd_F) (ar b : Nat) : Prop := (dl b = 0 ∧ av b = -1 ∧ st b = 0) ∨ (dl b = 1 ∧ av b = -1 ∧ st b = 1)
    ∨ (dl b = 1 ∧ (∃ a, a < ar ∧ av b = nI a) ∧ (0 < b → 0 ≤ av (pd_pa D b).toNatClampNeg) ∧ ((st b = 3 ∧ pd_va D b) ∨ (st b = 2 ∧ ¬ pd_va D b)))
/-- the blocks' states on both sides; block x is left out -/
def cn_blk (D : pd_D) (st dl av cw wk : pd_F) (blocks ar tp x : Nat) : Prop :=
  (∀ b, b < blocks → b ≠ x → cn_one D st dl av ar b)
    ∧ (∀ b c, b < blocks → c < blocks → 0 ≤ av b → av b = av c → b = c)
    ∧ ar = pd_cnt av 32
    ∧ (∀ b, blocks ≤ b → b < 32 → dl b = 0 ∧ av b = -1 ∧ st b = 0)
    ∧ cn_wrk D wk cw blocks
    ∧ (tp < blocks ∧ tp ≠ x ∧ 0 ≤ av tp ∧ pd_va D tp)
    ∧ (∀ b, b < blocks → b ≠ tp → 0 ≤ av b → pd_va D b → cw b < cw tp ∨ (cw b = cw tp ∧ av tp < av b))
    ∧ 0 ≤ av 0
theorem cn_av {D : pd_D} {st dl av cw wk : pd_F} {blocks ar tp x : Nat} (hb32 : blocks ≤ 32) (h : cn_blk D st dl av cw wk blocks ar tp x) {b : Nat} (hb : b < blocks) (hx : b ≠ x) (h0 : 0 ≤ av b) : ∃ a, a < ar ∧ av b = nI a := by
  rcases h.1 b hb hx with ⟨_, e, _⟩ | ⟨_, e, _⟩ | ⟨_, e, _⟩
  · rw [e] at h0; exact (pd_m1 h0).elim
  · rw [e] at h0; exact (pd_m1 h0).elim
  · exact e
/-- what becomes of the states when block x arrives -/
theorem cn_arr {D : pd_D} {st dl av cw wk : pd_F} {made blocks ar tp x : Nat} {z : Int32} (w : pd_wf D made blocks) (h : cn_blk D st dl av cw wk blocks ar tp x) (hx : x < blocks) (hx0 : 0 < x) (edl : dl x = 1) (eav : av x = -1) (hpa : 0 ≤ av (pd_pa D x).toNatClampNeg)
    (hz : (z = 3 ∧ pd_va D x) ∨ (z = 2 ∧ ¬ pd_va D x)) {T : Nat} (hT : (T = x ∧ pd_va D x ∧ cw tp < cw x) ∨ (T = tp ∧ ¬ (pd_va D x ∧ cw tp < cw x))) :
    cn_blk D (upd st x z) dl (upd av x (nI ar)) cw wk blocks (ar + 1) T 99 := by
  have hb32 := w.2.1
  obtain ⟨h1, h2, h3, h4, h5, ⟨t1, t2, t3, t4⟩, h7, h8⟩ := h
  have har : ar ≤ 32 := by rw [h3]; exact pd_cnt_le _ _
  have h' : cn_blk D st dl av cw wk blocks ar tp x := ⟨h1, h2, h3, h4, h5, ⟨t1, t2, t3, t4⟩, h7, h8⟩
  have h0up : ∀ c, 0 ≤ av c → 0 ≤ upd av x (nI ar) c := fun c hc => by
    by_cases e : c = x
    · rw [e, pk_us]; exact nI_pos' (by omega)
    · rw [pk_un e]; exact hc
  obtain ⟨a, ha, ea⟩ := cn_av hb32 h' t1 t2 t3
  obtain ⟨cx, hcx, ecx⟩ := h5.2.1 x hx
  obtain ⟨ct, hct, ect⟩ := h5.2.1 tp t1
  refine ⟨fun b hb _ => ?_, fun b c hb hc b0 e => ?_, ?_, fun b hb1 hb2 => ?_, h5, ?_, fun b hb hbT b0 vb => ?_, h0up 0 h8⟩
  · by_cases e : b = x
    · subst e
      refine Or.inr (Or.inr ⟨edl, ⟨ar, by omega, pk_us⟩, fun _ => h0up _ hpa, ?_⟩)
      rw [pk_us]; exact hz
    · unfold cn_one
      rw [pk_un e, pk_un e]
      rcases h1 b hb e with q | q | ⟨q1, ⟨a', q2, q3⟩, q4, q5⟩
      · exact Or.inl q
      · exact Or.inr (Or.inl q)
      · exact Or.inr (Or.inr ⟨q1, ⟨a', by omega, q3⟩, fun hb0 => h0up _ (q4 hb0), q5⟩)
  · by_cases e1 : b = x
    · by_cases e2 : c = x
      · omega
      · subst e1
        rw [pk_us, pk_un e2] at e
        have c0 : 0 ≤ av c := by rw [← e]; exact nI_pos' (by omega)
        obtain ⟨a', q1, q2⟩ := cn_av hb32 h' hc e2 c0
        rw [q2, nI_eq (by omega) (by omega)] at e
        omega
    · by_cases e2 : c = x
      · subst e2
        rw [pk_us, pk_un e1] at e
        have c0 : 0 ≤ av b := by rw [e]; exact nI_pos' (by omega)
        obtain ⟨a', q1, q2⟩ := cn_av hb32 h' hb e1 c0
        rw [q2, nI_eq (by omega) (by omega)] at e
        omega
      · rw [pk_un e1] at b0 e
        rw [pk_un e2] at e
        exact h2 b c hb hc b0 e
  · rw [pd_cnt_upd (by rw [eav]; decide) (nI_pos' (by omega)) 32 (by omega), h3]
  · rw [pk_un (by omega), pk_un (by omega)]
    exact h4 b hb1 hb2
  · rcases hT with ⟨rfl, v, _⟩ | ⟨rfl, _⟩
    · exact ⟨hx, by omega, by rw [pk_us]; exact nI_pos' (by omega), v⟩
    · exact ⟨t1, by omega, h0up _ t3, t4⟩
  · rcases hT with ⟨rfl, v, hlt⟩ | ⟨rfl, hno⟩
    · left
      rw [pk_un hbT] at b0
      by_cases e : b = tp
      · rw [e]; exact hlt
      · rw [ect, ecx, nI_ltI (by omega) (by omega)] at hlt
        obtain ⟨cb, hcb, ecb⟩ := h5.2.1 b hb
        have q := h7 b hb e b0 vb
        rw [ecb, ect, nI_ltI (by omega) (by omega), nI_eq (by omega) (by omega)] at q
        rw [ecb, ecx, nI_ltI (by omega) (by omega)]
        omega
    · by_cases e : b = x
      · subst e
        have hnlt : ¬ cw T < cw b := fun q => hno ⟨vb, q⟩
        rw [pk_us, pk_un (by omega), ea]
        rw [ect, ecx, nI_ltI (by omega) (by omega)] at hnlt
        rw [ecx, ect, nI_ltI (by omega) (by omega), nI_eq (by omega) (by omega), nI_ltI (by omega) (by omega)]
        omega
      · rw [pk_un e] at b0
        rw [pk_un e, pk_un t2]
        exact h7 b hb hbT b0 vb
section
variable {f_stackSize f_transactions f_putCount f_blocks f_tip f_poolCount f_queueCount : Int32} {a_tokenCount a_tokenOp a_tokenValue a_scriptInUse a_stack a_inputCount a_inputCoin a_inputA a_inputB a_outputCount a_outputAmount a_outputScript a_feeOf a_putRow a_parentOf a_heightOf a_chainWork a_blockState a_rewardAmount a_rewardScript a_blockSize a_blockTransaction a_laidBlock a_coinHeight a_coinSpent a_transactionHeight a_poolRow a_marked a_queue : Nat → Int32}
variable {g_made g_blocks g_arrivals g_tip g_pooled g_chainLength : Int32} {b_op b_arg b_length b_ins b_inCoin b_inA b_inB b_outs b_amount b_lock b_parent b_work b_rewardLock b_height b_many b_holds b_delivered b_arrived b_pool b_chain b_from b_worth b_within b_spent b_stack b_again b_chosen gfe grw : Nat → Int32}
theorem ad_loop {made blocks tp n : Nat} {S : pd_S} {L : List Int32} (w : pd_wf (a_tokenCount, a_tokenOp, a_tokenValue, a_inputCount, a_inputCoin, a_inputA, a_inputB, a_outputCount, a_outputAmount, a_outputScript, a_parentOf, a_heightOf, a_rewardScript, a_blockSize, a_blockTransaction, a_feeOf, a_rewardAmount) made blocks) (wE : pd_wf (b_length, b_op, b_arg, b_ins, b_inCoin, b_inA, b_inB, b_outs, b_amount, b_lock, b_parent, b_height, b_rewardLock, b_many, b_holds, gfe, grw) made blocks) (ag : pd_ag (a_tokenCount, a_tokenOp, a_tokenValue, a_inputCount, a_inputCoin, a_inputA, a_inputB, a_outputCount, a_outputAmount, a_outputScript, a_parentOf, a_heightOf, a_rewardScript, a_blockSize, a_blockTransaction, a_feeOf, a_rewardAmount) (b_length, b_op, b_arg, b_ins, b_inCoin, b_inA, b_inB, b_outs, b_amount, b_lock, b_parent, b_height, b_rewardLock, b_many, b_holds, gfe, grw) made blocks) (tk : fx_tok a_tokenCount a_tokenOp a_tokenValue) (tkE : fx_tok b_length b_op b_arg) (fq : pd_feq (b_length, b_op, b_arg, b_ins, b_inCoin, b_inA, b_inB, b_outs, b_amount, b_lock, b_parent, b_height, b_rewardLock, b_many, b_holds, gfe, grw) made)
    (I : pd_inv (a_tokenCount, a_tokenOp, a_tokenValue, a_inputCount, a_inputCoin, a_inputA, a_inputB, a_outputCount, a_outputAmount, a_outputScript, a_parentOf, a_heightOf, a_rewardScript, a_blockSize, a_blockTransaction, a_feeOf, a_rewardAmount) made blocks S) (rg : pd_rng S.1) (sp : ∀ c, c < 152 → ¬ S.2.1 c = 0 → 0 ≤ S.1 c)
    (htp : tp < blocks) (eh : a_heightOf tp = nI n) (eh' : b_height tp = nI n) (hn : n < 32) (hL : L.length ≤ 52) :
    ∀ (d i np : Nat) (pl : Nat → Int32), i + d = L.length → pd_pool (a_tokenCount, a_tokenOp, a_tokenValue, a_inputCount, a_inputCoin, a_inputA, a_inputB, a_outputCount, a_outputAmount, a_outputScript, a_parentOf, a_heightOf, a_rewardScript, a_blockSize, a_blockTransaction, a_feeOf, a_rewardAmount) S made pl np → ∃ (pl' : Nat → Int32) (np' : Nat), pd_pool (a_tokenCount, a_tokenOp, a_tokenValue, a_inputCount, a_inputCoin, a_inputA, a_inputB, a_outputCount, a_outputAmount, a_outputScript, a_parentOf, a_heightOf, a_rewardScript, a_blockSize, a_blockTransaction, a_feeOf, a_rewardAmount) S made pl' np'
      ∧ (∀ (post : SX → Prop) (lb0 q0 : Nat → Int32), qu_h q0 L → (∀ ss st mk, post (ss, nI made, f_putCount, f_blocks, nI tp, nI np', nI L.length, a_tokenCount, a_tokenOp, a_tokenValue, a_scriptInUse, st, a_inputCount, a_inputCoin, a_inputA, a_inputB, a_outputCount, a_outputAmount, a_outputScript, a_feeOf, a_putRow, a_parentOf, a_heightOf, a_chainWork, a_blockState, a_rewardAmount, a_rewardScript, a_blockSize, a_blockTransaction, lb0, S.1, S.2.1, S.2.2, pl', mk, q0)) → ∀ (ss0 : Int32) (st0 mk0 : Nat → Int32) (fuel : Nat), d < fuel → wX_arrive_73 post fuel (nI i) ss0 (nI made) f_putCount f_blocks (nI tp) (nI np) (nI L.length) a_tokenCount a_tokenOp a_tokenValue a_scriptInUse st0 a_inputCount a_inputCoin a_inputA a_inputB a_outputCount a_outputAmount a_outputScript a_feeOf a_putRow a_parentOf a_heightOf a_chainWork a_blockState a_rewardAmount a_rewardScript a_blockSize a_blockTransaction lb0 S.1 S.2.1 S.2.2 pl mk0 q0)
      ∧ (∀ (post : SY → Prop) (cl0 : Int32) (wo0 ch0 ag0 : Nat → Int32), pd_wor (b_length, b_op, b_arg, b_ins, b_inCoin, b_inA, b_inB, b_outs, b_amount, b_lock, b_parent, b_height, b_rewardLock, b_many, b_holds, gfe, grw) S.1 wo0 → qu_h ag0 L → (∀ st, post (nI made, g_blocks, g_arrivals, nI tp, nI np', cl0, b_op, b_arg, b_length, b_ins, b_inCoin, b_inA, b_inB, b_outs, b_amount, b_lock, b_parent, b_work, b_rewardLock, b_height, b_many, b_holds, b_delivered, b_arrived, pl', ch0, S.1, wo0, S.2.2, S.2.1, st, ag0, b_chosen)) → ∀ (st0 : Nat → Int32) (fuel : Nat), d < fuel → wY_findTip_220 post (nI L.length) fuel (nI i) (nI made) g_blocks g_arrivals (nI tp) (nI np) cl0 b_op b_arg b_length b_ins b_inCoin b_inA b_inB b_outs b_amount b_lock b_parent b_work b_rewardLock b_height b_many b_holds b_delivered b_arrived pl ch0 S.1 wo0 S.2.2 S.2.1 st0 ag0 b_chosen) := by
  intro d
  induction d with
  | zero =>
    intro i np pl hi P
    refine ⟨pl, np, P, fun post lb0 q0 qX h ss0 st0 mk0 fuel hf => ?_, fun post cl0 wo0 ch0 ag0 wr qY h st0 fuel hf => ?_⟩
    · obtain ⟨fuel, rfl⟩ : ∃ q, fuel = q + 1 := ⟨fuel - 1, by omega⟩
      exact br_t (nI_le (by omega) (by omega)) (h _ _ _)
    · obtain ⟨fuel, rfl⟩ : ∃ q, fuel = q + 1 := ⟨fuel - 1, by omega⟩
      exact br_t (nI_le (by omega) (by omega)) (h _)
  | succ d ih =>
    intro i np pl hi P
    obtain ⟨r, pl1, np1, P1, hX1, hY1⟩ := ad_take (f_putCount := f_putCount) (f_blocks := f_blocks) (a_scriptInUse := a_scriptInUse) (a_putRow := a_putRow) (a_chainWork := a_chainWork) (a_blockState := a_blockState)
      (g_blocks := g_blocks) (g_arrivals := g_arrivals) (b_work := b_work) (b_delivered := b_delivered) (b_arrived := b_arrived) (b_chosen := b_chosen)
      w wE ag tk tkE fq I rg sp htp eh eh' hn P (L[i]'(by omega)) 0
    obtain ⟨pl2, np2, P2, hX2, hY2⟩ := ih (i + 1) np1 pl1 (by omega) P1
    refine ⟨pl2, np2, P2, fun post lb0 q0 qX h ss0 st0 mk0 fuel hf => ?_, fun post cl0 wo0 ch0 ag0 wr qY h st0 fuel hf => ?_⟩
    · obtain ⟨fuel, rfl⟩ : ∃ q, fuel = q + 1 := ⟨fuel - 1, by omega⟩
      refine pk_le L.length i (fun z => by omega) (fun z => ⟨pk_in i 52 (by omega), ?_⟩)
      rw [pk_cl i, qX i (by omega)]
      exact hX1 _ ss0 _ st0 mk0 lb0 q0 fun ss st mk => nm_r (nI_1 i) (hX2 post lb0 q0 qX h ss st mk fuel (by omega))
    · obtain ⟨fuel, rfl⟩ : ∃ q, fuel = q + 1 := ⟨fuel - 1, by omega⟩
      refine pk_le L.length i (fun z => by omega) (fun z => ⟨pk_in i 200 (by omega), ?_⟩)
      rw [pk_cl i, qY i (by omega)]
      exact hY1 _ cl0 st0 wo0 ch0 ag0 wr fun st => nm_r (nI_1 i) (hY2 post cl0 wo0 ch0 ag0 wr qY h st fuel (by omega))
end
