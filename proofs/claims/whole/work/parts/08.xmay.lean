/-! X: maySpend, isValidOnParent -/
theorem pd_coin_mono {D : pd_D} {t made blocks c : Nat} (h : t ≤ made) (q : pd_coin D t blocks c) : pd_coin D made blocks c := by
  rcases q with ⟨q1, q2, q3⟩ | q
  · exact Or.inl ⟨q1, by omega, q3⟩
  · exact Or.inr q
theorem pd_sc_eq {D : pd_D} {made blocks c : Nat} (w : pd_wf D made blocks) (h : pd_coin D made blocks c) : pd_sc D c < 8 ∧ (c < 120 → pd_os D c = nI (pd_sc D c)) ∧ (120 ≤ c → pd_rs D (c - 120) = nI (pd_sc D c)) := by
  obtain ⟨w1, w2, w3, w4, wT, wB⟩ := w
  unfold pd_sc
  rcases h with ⟨h1, h2, h3⟩ | ⟨h1, h2⟩
  · rw [if_pos h1]
    obtain ⟨n, m, _, _, _, hm, _, em, _, _, ho⟩ := wT _ h2
    rw [pd_cl em (by omega)] at h3
    obtain ⟨s, hs, es⟩ := ho _ h3
    rw [show 3 * (c / 3) + c % 3 = c by omega] at es
    rw [pd_cl es (by omega)]
    exact ⟨hs, fun _ => es, fun z => by omega⟩
  · rw [if_neg (by omega)]
    obtain ⟨_, ⟨s, hs, es⟩, _⟩ := wB _ h2
    rw [pd_cl es (by omega)]
    exact ⟨hs, fun z => by omega, fun _ => es⟩
theorem xb_d3 {c : Nat} (h : c < 152) : nI c / 3 = nI (c / 3) := pk_div (d := 3) (by omega) (by omega) (by omega)
section
variable {f_stackSize f_transactions f_putCount f_blocks f_tip f_poolCount f_queueCount : Int32} {a_tokenCount a_tokenOp a_tokenValue a_scriptInUse a_stack a_inputCount a_inputCoin a_inputA a_inputB a_outputCount a_outputAmount a_outputScript a_feeOf a_putRow a_parentOf a_heightOf a_chainWork a_blockState a_rewardAmount a_rewardScript a_blockSize a_blockTransaction a_laidBlock a_coinHeight a_coinSpent a_transactionHeight a_poolRow a_marked a_queue : Nat → Int32}
theorem xm_may56 {made blocks p c : Nat} {h g fp x1 : Int32} (w : pd_wf (a_tokenCount, a_tokenOp, a_tokenValue, a_inputCount, a_inputCoin, a_inputA, a_inputB, a_outputCount, a_outputAmount, a_outputScript, a_parentOf, a_heightOf, a_rewardScript, a_blockSize, a_blockTransaction, a_feeOf, a_rewardAmount) made blocks) (tk : fx_tok a_tokenCount a_tokenOp a_tokenValue) (hp : p < 123) (hc : c < 152) (ec : a_inputCoin p = nI c) (hq : pd_coin (a_tokenCount, a_tokenOp, a_tokenValue, a_inputCount, a_inputCoin, a_inputA, a_inputB, a_outputCount, a_outputAmount, a_outputScript, a_parentOf, a_heightOf, a_rewardScript, a_blockSize, a_blockTransaction, a_feeOf, a_rewardAmount) made blocks c) {post : Int32 → SX → Prop} {J : Int32 → Int32 → Int32 → Int32 → Int32 → Int32 → Int32 → Int32 → (Nat → Int32) → (Nat → Int32) → (Nat → Int32) → (Nat → Int32) → (Nat → Int32) → (Nat → Int32) → (Nat → Int32) → (Nat → Int32) → (Nat → Int32) → (Nat → Int32) → (Nat → Int32) → (Nat → Int32) → (Nat → Int32) → (Nat → Int32) → (Nat → Int32) → (Nat → Int32) → (Nat → Int32) → (Nat → Int32) → (Nat → Int32) → (Nat → Int32) → (Nat → Int32) → (Nat → Int32) → (Nat → Int32) → (Nat → Int32) → (Nat → Int32) → (Nat → Int32) → (Nat → Int32) → (Nat → Int32) → (Nat → Int32) → Prop}
    (H0 : ¬ pd_okG (a_tokenCount, a_tokenOp, a_tokenValue, a_inputCount, a_inputCoin, a_inputA, a_inputB, a_outputCount, a_outputAmount, a_outputScript, a_parentOf, a_heightOf, a_rewardScript, a_blockSize, a_blockTransaction, a_feeOf, a_rewardAmount) (a_coinHeight, a_coinSpent, a_transactionHeight) h p g → ∀ ss st, post 0 (ss, f_transactions, f_putCount, f_blocks, f_tip, f_poolCount, f_queueCount, a_tokenCount, a_tokenOp, a_tokenValue, a_scriptInUse, st, a_inputCount, a_inputCoin, a_inputA, a_inputB, a_outputCount, a_outputAmount, a_outputScript, a_feeOf, a_putRow, a_parentOf, a_heightOf, a_chainWork, a_blockState, a_rewardAmount, a_rewardScript, a_blockSize, a_blockTransaction, a_laidBlock, a_coinHeight, a_coinSpent, a_transactionHeight, a_poolRow, a_marked, a_queue))
    (HJ : pd_okG (a_tokenCount, a_tokenOp, a_tokenValue, a_inputCount, a_inputCoin, a_inputA, a_inputB, a_outputCount, a_outputAmount, a_outputScript, a_parentOf, a_heightOf, a_rewardScript, a_blockSize, a_blockTransaction, a_feeOf, a_rewardAmount) (a_coinHeight, a_coinSpent, a_transactionHeight) h p g → ∀ ss st, J (nI (p + 1)) ss f_transactions f_putCount f_blocks f_tip f_poolCount f_queueCount a_tokenCount a_tokenOp a_tokenValue a_scriptInUse st a_inputCount a_inputCoin a_inputA a_inputB a_outputCount a_outputAmount a_outputScript a_feeOf a_putRow a_parentOf a_heightOf a_chainWork a_blockState a_rewardAmount a_rewardScript a_blockSize a_blockTransaction a_laidBlock a_coinHeight a_coinSpent a_transactionHeight a_poolRow a_marked a_queue) :
    wX_maySpend_56 post J x1 h fp (nI p) (nI c) g f_stackSize f_transactions f_putCount f_blocks f_tip f_poolCount f_queueCount a_tokenCount a_tokenOp a_tokenValue a_scriptInUse a_stack a_inputCount a_inputCoin a_inputA a_inputB a_outputCount a_outputAmount a_outputScript a_feeOf a_putRow a_parentOf a_heightOf a_chainWork a_blockState a_rewardAmount a_rewardScript a_blockSize a_blockTransaction a_laidBlock a_coinHeight a_coinSpent a_transactionHeight a_poolRow a_marked a_queue := by
  have ecc : (pd_co (a_tokenCount, a_tokenOp, a_tokenValue, a_inputCount, a_inputCoin, a_inputA, a_inputB, a_outputCount, a_outputAmount, a_outputScript, a_parentOf, a_heightOf, a_rewardScript, a_blockSize, a_blockTransaction, a_feeOf, a_rewardAmount) p).toNatClampNeg = c := pd_cl ec (by omega)
  obtain ⟨s8, so, sr⟩ := pd_sc_eq w hq
  have es : (if c < 120 then a_outputScript c else a_rewardScript (c - 120)) = nI (pd_sc (a_tokenCount, a_tokenOp, a_tokenValue, a_inputCount, a_inputCoin, a_inputA, a_inputB, a_outputCount, a_outputAmount, a_outputScript, a_parentOf, a_heightOf, a_rewardScript, a_blockSize, a_blockTransaction, a_feeOf, a_rewardAmount) c) := by
    by_cases z : c < 120
    · rw [if_pos z]; exact so z
    · rw [if_neg z]; exact sr (by omega)
  unfold pd_okG at H0 HJ
  rw [ecc] at H0 HJ
  have eia : a_inputA (nI p).toNatClampNeg = a_inputA p := by rw [pk_cl p]
  have eib : a_inputB (nI p).toNatClampNeg = a_inputB p := by rw [pk_cl p]
  have m90 : 0 ≤ g → a_coinSpent c = 0 → (120 ≤ c → 2 ≤ h - g) → wX_maySpend_90 post J x1 h fp (nI p) (nI c) g f_stackSize f_transactions f_putCount f_blocks f_tip f_poolCount f_queueCount a_tokenCount a_tokenOp a_tokenValue a_scriptInUse a_stack a_inputCount a_inputCoin a_inputA a_inputB a_outputCount a_outputAmount a_outputScript a_feeOf a_putRow a_parentOf a_heightOf a_chainWork a_blockState a_rewardAmount a_rewardScript a_blockSize a_blockTransaction a_laidBlock a_coinHeight a_coinSpent a_transactionHeight a_poolRow a_marked a_queue := by
    intro g0 g1 g2
    refine xm_scriptOf hc ?_
    rw [es, eia, eib]
    refine ⟨pk_in p 123 hp, pk_in p 123 hp, xm_fits s8 tk (fun hf ss st => ?_) (fun hf ss st => ?_)⟩
    · exact br_f (by decide) (nm_r (nI_1 p) (HJ ⟨g0, g1, g2, hf⟩ ss st))
    · exact br_t rfl (H0 (fun q => hf q.2.2.2) ss st)
  refine br_c (fun z => H0 (fun q => absurd q.1 (Int32.not_le.mpr z)) _ _) (fun z => ⟨pk_in c 152 hc, ?_⟩)
  rw [pk_cl c]
  have z' : 0 ≤ g := Int32.not_lt.mp z
  refine br_c (fun z1 => pk_lt c 120 (fun z2 => m90 z' z1 (fun q => by omega)) (fun z2 => br_c (fun z3 => m90 z' z1 (fun _ => z3)) (fun z3 => H0 (fun q => z3 (q.2.2.1 z2)) _ _))) (fun z1 => H0 (fun q => z1 q.2.1) _ _)
theorem xm_may {made blocks t np : Nat} {h fp : Int32} (w : pd_wf (a_tokenCount, a_tokenOp, a_tokenValue, a_inputCount, a_inputCoin, a_inputA, a_inputB, a_outputCount, a_outputAmount, a_outputScript, a_parentOf, a_heightOf, a_rewardScript, a_blockSize, a_blockTransaction, a_feeOf, a_rewardAmount) made blocks) (tk : fx_tok a_tokenCount a_tokenOp a_tokenValue) (ht : t < made) (hnp : np ≤ 12) (ep : f_poolCount = nI np) (P : Nat → Prop) (hP0 : fp = 0 → ∀ c, ¬ P c) (hP1 : ¬ fp = 0 → ∀ c, c < 152 → (P c ↔ ∃ k, k < np ∧ a_poolRow k = nI (c / 3))) {post : Int32 → SX → Prop}
    (H1 : pd_may (a_tokenCount, a_tokenOp, a_tokenValue, a_inputCount, a_inputCoin, a_inputA, a_inputB, a_outputCount, a_outputAmount, a_outputScript, a_parentOf, a_heightOf, a_rewardScript, a_blockSize, a_blockTransaction, a_feeOf, a_rewardAmount) (a_coinHeight, a_coinSpent, a_transactionHeight) h P t → ∀ ss st, post 1 (ss, f_transactions, f_putCount, f_blocks, f_tip, f_poolCount, f_queueCount, a_tokenCount, a_tokenOp, a_tokenValue, a_scriptInUse, st, a_inputCount, a_inputCoin, a_inputA, a_inputB, a_outputCount, a_outputAmount, a_outputScript, a_feeOf, a_putRow, a_parentOf, a_heightOf, a_chainWork, a_blockState, a_rewardAmount, a_rewardScript, a_blockSize, a_blockTransaction, a_laidBlock, a_coinHeight, a_coinSpent, a_transactionHeight, a_poolRow, a_marked, a_queue))
    (H0 : ¬ pd_may (a_tokenCount, a_tokenOp, a_tokenValue, a_inputCount, a_inputCoin, a_inputA, a_inputB, a_outputCount, a_outputAmount, a_outputScript, a_parentOf, a_heightOf, a_rewardScript, a_blockSize, a_blockTransaction, a_feeOf, a_rewardAmount) (a_coinHeight, a_coinSpent, a_transactionHeight) h P t → ∀ ss st, post 0 (ss, f_transactions, f_putCount, f_blocks, f_tip, f_poolCount, f_queueCount, a_tokenCount, a_tokenOp, a_tokenValue, a_scriptInUse, st, a_inputCount, a_inputCoin, a_inputA, a_inputB, a_outputCount, a_outputAmount, a_outputScript, a_feeOf, a_putRow, a_parentOf, a_heightOf, a_chainWork, a_blockState, a_rewardAmount, a_rewardScript, a_blockSize, a_blockTransaction, a_laidBlock, a_coinHeight, a_coinSpent, a_transactionHeight, a_poolRow, a_marked, a_queue)) :
    wpX_maySpend post (f_stackSize, f_transactions, f_putCount, f_blocks, f_tip, f_poolCount, f_queueCount, a_tokenCount, a_tokenOp, a_tokenValue, a_scriptInUse, a_stack, a_inputCount, a_inputCoin, a_inputA, a_inputB, a_outputCount, a_outputAmount, a_outputScript, a_feeOf, a_putRow, a_parentOf, a_heightOf, a_chainWork, a_blockState, a_rewardAmount, a_rewardScript, a_blockSize, a_blockTransaction, a_laidBlock, a_coinHeight, a_coinSpent, a_transactionHeight, a_poolRow, a_marked, a_queue) (nI t) h fp := by
  have hm := w.2.2.1
  obtain ⟨n, m, _, hn, _, hm3, en, em, hc, _⟩ := w.2.2.2.2.1 _ ht
  have en' : a_inputCount t = nI n := en
  have enc : (pd_ic (a_tokenCount, a_tokenOp, a_tokenValue, a_inputCount, a_inputCoin, a_inputA, a_inputB, a_outputCount, a_outputAmount, a_outputScript, a_parentOf, a_heightOf, a_rewardScript, a_blockSize, a_blockTransaction, a_feeOf, a_rewardAmount) t).toNatClampNeg = n := pd_cl en (by omega)
  have e3 : nI t * 3 + a_inputCount (nI t).toNatClampNeg = nI (3 * t + n) := by rw [pk_cl t, en']; exact xb_3 t n
  unfold pd_may at H1 H0
  rw [enc] at H1 H0
  have key : ∀ (d i fuel : Nat) (ss : Int32) (st : Nat → Int32), i + d = n → d < fuel → (∀ j, j < i → pd_okG (a_tokenCount, a_tokenOp, a_tokenValue, a_inputCount, a_inputCoin, a_inputA, a_inputB, a_outputCount, a_outputAmount, a_outputScript, a_parentOf, a_heightOf, a_rewardScript, a_blockSize, a_blockTransaction, a_feeOf, a_rewardAmount) (a_coinHeight, a_coinSpent, a_transactionHeight) h (3 * t + j) (pd_from (a_coinHeight, a_coinSpent, a_transactionHeight) h (pd_co (a_tokenCount, a_tokenOp, a_tokenValue, a_inputCount, a_inputCoin, a_inputA, a_inputB, a_outputCount, a_outputAmount, a_outputScript, a_parentOf, a_heightOf, a_rewardScript, a_blockSize, a_blockTransaction, a_feeOf, a_rewardAmount) (3 * t + j)).toNatClampNeg (P (pd_co (a_tokenCount, a_tokenOp, a_tokenValue, a_inputCount, a_inputCoin, a_inputA, a_inputB, a_outputCount, a_outputAmount, a_outputScript, a_parentOf, a_heightOf, a_rewardScript, a_blockSize, a_blockTransaction, a_feeOf, a_rewardAmount) (3 * t + j)).toNatClampNeg))) → wX_maySpend_5 post (nI t) h fp fuel (nI (3 * t + i)) ss f_transactions f_putCount f_blocks f_tip f_poolCount f_queueCount a_tokenCount a_tokenOp a_tokenValue a_scriptInUse st a_inputCount a_inputCoin a_inputA a_inputB a_outputCount a_outputAmount a_outputScript a_feeOf a_putRow a_parentOf a_heightOf a_chainWork a_blockState a_rewardAmount a_rewardScript a_blockSize a_blockTransaction a_laidBlock a_coinHeight a_coinSpent a_transactionHeight a_poolRow a_marked a_queue := by
    intro d
    induction d with
    | zero =>
      intro i fuel ss st hi hf hj
      obtain ⟨fuel, rfl⟩ : ∃ q, fuel = q + 1 := ⟨fuel - 1, by omega⟩
      obtain rfl : i = n := by omega
      refine ⟨pk_in t 41 (by omega), br_t (by rw [e3]; exact nI_le (Nat.le_refl _) (by omega)) ⟨pk_in t 40 (by omega), ?_⟩⟩
      rw [pk_cl t]
      exact br_c (fun z => H0 (fun q => absurd q.2 (Int32.not_le.mpr z)) _ _) (fun z => H1 ⟨hj, Int32.not_lt.mp z⟩ _ _)
    | succ d ih =>
      intro i fuel ss st hi hf hj
      obtain ⟨fuel, rfl⟩ : ∃ q, fuel = q + 1 := ⟨fuel - 1, by omega⟩
      obtain ⟨c, hc1, hc2, hc3⟩ := hc i (by omega)
      have hq := pd_coin_mono (Nat.le_of_lt ht) hc3
      have ecc : (pd_co (a_tokenCount, a_tokenOp, a_tokenValue, a_inputCount, a_inputCoin, a_inputA, a_inputB, a_outputCount, a_outputAmount, a_outputScript, a_parentOf, a_heightOf, a_rewardScript, a_blockSize, a_blockTransaction, a_feeOf, a_rewardAmount) (3 * t + i)).toNatClampNeg = c := pd_cl hc2 (by omega)
      have step : ∀ g, g = pd_from (a_coinHeight, a_coinSpent, a_transactionHeight) h c (P c) → wX_maySpend_56 post (wX_maySpend_5 post (nI t) h fp fuel) (nI t) h fp (nI (3 * t + i)) (nI c) g ss f_transactions f_putCount f_blocks f_tip f_poolCount f_queueCount a_tokenCount a_tokenOp a_tokenValue a_scriptInUse st a_inputCount a_inputCoin a_inputA a_inputB a_outputCount a_outputAmount a_outputScript a_feeOf a_putRow a_parentOf a_heightOf a_chainWork a_blockState a_rewardAmount a_rewardScript a_blockSize a_blockTransaction a_laidBlock a_coinHeight a_coinSpent a_transactionHeight a_poolRow a_marked a_queue := by
        intro g eg
        refine xm_may56 w tk (by omega) hc1 hc2 hq (fun hno ss' st' => H0 (fun q => hno ?_) ss' st') (fun hyes ss' st' => ?_)
        · have := q.1 i (by omega)
          rw [ecc] at this
          rw [eg]; exact this
        · refine ih (i + 1) fuel ss' st' (by omega) (by omega) fun j hj' => ?_
          by_cases e : j = i
          · subst e
            rw [ecc]
            rw [eg] at hyes; exact hyes
          · exact hj j (by omega)
      refine ⟨pk_in t 41 (by omega), pk_le (3 * t + n) (3 * t + i) (fun z => by omega) (fun z => ⟨pk_in (3 * t + i) 123 (by omega), nm_r ((congrArg a_inputCoin (pk_cl (3 * t + i))).trans hc2) ⟨pk_in c 152 hc1, nm_r (congrArg a_coinHeight (pk_cl c)) ?_⟩⟩) e3⟩
      refine br_c (fun z0 => step _ (pd_from_f (S := (a_coinHeight, a_coinSpent, a_transactionHeight)) (hP0 z0 c)).symm) (fun z0 => ⟨by decide, ?_⟩)
      rw [xb_d3 hc1]
      refine xm_inPool hnp ep (fun hin => br_f (by decide) (step _ (pd_from_t ((hP1 z0 c hc1).mpr hin)).symm)) (fun hin => br_t rfl (step _ (pd_from_f (S := (a_coinHeight, a_coinSpent, a_transactionHeight)) fun q => hin ((hP1 z0 c hc1).mp q)).symm))
  have e30 : nI t * 3 = nI (3 * t + 0) := by rw [show (3 : Int32) = nI 3 from rfl, pk_mul, Nat.mul_comm]; rfl
  exact nm_r e30 ⟨n + 1, key n 0 (n + 1) _ _ (by omega) (by omega) (fun j hj => by omega)⟩
theorem xm_ivp29 {made blocks b : Nat} (w : pd_wf (a_tokenCount, a_tokenOp, a_tokenValue, a_inputCount, a_inputCoin, a_inputA, a_inputB, a_outputCount, a_outputAmount, a_outputScript, a_parentOf, a_heightOf, a_rewardScript, a_blockSize, a_blockTransaction, a_feeOf, a_rewardAmount) made blocks) (tk : fx_tok a_tokenCount a_tokenOp a_tokenValue) (hb : b < blocks) {np : Nat} (hnp : np ≤ 12) (ep : f_poolCount = nI np) (S : pd_S) (I : pd_inv (a_tokenCount, a_tokenOp, a_tokenValue, a_inputCount, a_inputCoin, a_inputA, a_inputB, a_outputCount, a_outputAmount, a_outputScript, a_parentOf, a_heightOf, a_rewardScript, a_blockSize, a_blockTransaction, a_feeOf, a_rewardAmount) made blocks S) {post : Int32 → SX → Prop}
    (H1 : pd_okTxs (a_tokenCount, a_tokenOp, a_tokenValue, a_inputCount, a_inputCoin, a_inputA, a_inputB, a_outputCount, a_outputAmount, a_outputScript, a_parentOf, a_heightOf, a_rewardScript, a_blockSize, a_blockTransaction, a_feeOf, a_rewardAmount) b (a_heightOf b) (a_blockSize b).toNatClampNeg S → ∀ S' ss st, pd_out S' → post 1 (ss, f_transactions, f_putCount, f_blocks, f_tip, f_poolCount, f_queueCount, a_tokenCount, a_tokenOp, a_tokenValue, a_scriptInUse, st, a_inputCount, a_inputCoin, a_inputA, a_inputB, a_outputCount, a_outputAmount, a_outputScript, a_feeOf, a_putRow, a_parentOf, a_heightOf, a_chainWork, a_blockState, a_rewardAmount, a_rewardScript, a_blockSize, a_blockTransaction, a_laidBlock, (S').1, (S').2.1, (S').2.2, a_poolRow, a_marked, a_queue))
    (H0 : ¬ pd_okTxs (a_tokenCount, a_tokenOp, a_tokenValue, a_inputCount, a_inputCoin, a_inputA, a_inputB, a_outputCount, a_outputAmount, a_outputScript, a_parentOf, a_heightOf, a_rewardScript, a_blockSize, a_blockTransaction, a_feeOf, a_rewardAmount) b (a_heightOf b) (a_blockSize b).toNatClampNeg S → ∀ S' ss st, pd_out S' → post 0 (ss, f_transactions, f_putCount, f_blocks, f_tip, f_poolCount, f_queueCount, a_tokenCount, a_tokenOp, a_tokenValue, a_scriptInUse, st, a_inputCount, a_inputCoin, a_inputA, a_inputB, a_outputCount, a_outputAmount, a_outputScript, a_feeOf, a_putRow, a_parentOf, a_heightOf, a_chainWork, a_blockState, a_rewardAmount, a_rewardScript, a_blockSize, a_blockTransaction, a_laidBlock, (S').1, (S').2.1, (S').2.2, a_poolRow, a_marked, a_queue)) :
    ∃ fuel, wX_isValidOnParent_29 post (nI b) fuel 0 f_stackSize f_transactions f_putCount f_blocks f_tip f_poolCount f_queueCount a_tokenCount a_tokenOp a_tokenValue a_scriptInUse a_stack a_inputCount a_inputCoin a_inputA a_inputB a_outputCount a_outputAmount a_outputScript a_feeOf a_putRow a_parentOf a_heightOf a_chainWork a_blockState a_rewardAmount a_rewardScript a_blockSize a_blockTransaction a_laidBlock S.1 S.2.1 S.2.2 a_poolRow a_marked a_queue := by
  have hbk := w.2.1
  have hm := w.2.2.1
  obtain ⟨hh, _, hh2, eh⟩ := pd_he_of w hb
  have hpos : 0 ≤ pd_he (a_tokenCount, a_tokenOp, a_tokenValue, a_inputCount, a_inputCoin, a_inputA, a_inputB, a_outputCount, a_outputAmount, a_outputScript, a_parentOf, a_heightOf, a_rewardScript, a_blockSize, a_blockTransaction, a_feeOf, a_rewardAmount) b := by rw [eh]; exact nI_pos' (by omega)
  obtain ⟨_, _, ⟨n, hn, en, _⟩, _⟩ := w.2.2.2.2.2 _ hb
  have enc : a_blockSize (nI b).toNatClampNeg = nI n := by rw [nI_clamp (by omega)]; exact en
  have ebs : (a_blockSize b).toNatClampNeg = n := pd_cl en (by omega)
  have ehc : a_heightOf (nI b).toNatClampNeg = a_heightOf b := by rw [nI_clamp (by omega)]
  rw [ebs] at H1 H0
  have fall : ∀ i, i < n → ¬ pd_okTx (a_tokenCount, a_tokenOp, a_tokenValue, a_inputCount, a_inputCoin, a_inputA, a_inputB, a_outputCount, a_outputAmount, a_outputScript, a_parentOf, a_heightOf, a_rewardScript, a_blockSize, a_blockTransaction, a_feeOf, a_rewardAmount) (pd_txs (a_tokenCount, a_tokenOp, a_tokenValue, a_inputCount, a_inputCoin, a_inputA, a_inputB, a_outputCount, a_outputAmount, a_outputScript, a_parentOf, a_heightOf, a_rewardScript, a_blockSize, a_blockTransaction, a_feeOf, a_rewardAmount) b (a_heightOf b) i S) (pd_bt (a_tokenCount, a_tokenOp, a_tokenValue, a_inputCount, a_inputCoin, a_inputA, a_inputB, a_outputCount, a_outputAmount, a_outputScript, a_parentOf, a_heightOf, a_rewardScript, a_blockSize, a_blockTransaction, a_feeOf, a_rewardAmount) (4 * b + i)).toNatClampNeg (a_heightOf b) → ¬ pd_okTxs (a_tokenCount, a_tokenOp, a_tokenValue, a_inputCount, a_inputCoin, a_inputA, a_inputB, a_outputCount, a_outputAmount, a_outputScript, a_parentOf, a_heightOf, a_rewardScript, a_blockSize, a_blockTransaction, a_feeOf, a_rewardAmount) b (a_heightOf b) n S := by
    intro i hi hno
    have : ∀ m, i < m → ¬ pd_okTxs (a_tokenCount, a_tokenOp, a_tokenValue, a_inputCount, a_inputCoin, a_inputA, a_inputB, a_outputCount, a_outputAmount, a_outputScript, a_parentOf, a_heightOf, a_rewardScript, a_blockSize, a_blockTransaction, a_feeOf, a_rewardAmount) b (a_heightOf b) m S := by
      intro m
      induction m with
      | zero => intro z; omega
      | succ m ih =>
        intro z q
        by_cases e : i = m
        · subst e; exact hno q.2
        · exact ih (by omega) q.1
    exact this n hi
  have key : ∀ (d i fuel : Nat) (ss : Int32) (st : Nat → Int32), i + d = n → d < fuel → pd_okTxs (a_tokenCount, a_tokenOp, a_tokenValue, a_inputCount, a_inputCoin, a_inputA, a_inputB, a_outputCount, a_outputAmount, a_outputScript, a_parentOf, a_heightOf, a_rewardScript, a_blockSize, a_blockTransaction, a_feeOf, a_rewardAmount) b (a_heightOf b) i S → wX_isValidOnParent_29 post (nI b) fuel (nI i) ss f_transactions f_putCount f_blocks f_tip f_poolCount f_queueCount a_tokenCount a_tokenOp a_tokenValue a_scriptInUse st a_inputCount a_inputCoin a_inputA a_inputB a_outputCount a_outputAmount a_outputScript a_feeOf a_putRow a_parentOf a_heightOf a_chainWork a_blockState a_rewardAmount a_rewardScript a_blockSize a_blockTransaction a_laidBlock ((pd_txs (a_tokenCount, a_tokenOp, a_tokenValue, a_inputCount, a_inputCoin, a_inputA, a_inputB, a_outputCount, a_outputAmount, a_outputScript, a_parentOf, a_heightOf, a_rewardScript, a_blockSize, a_blockTransaction, a_feeOf, a_rewardAmount) b (a_heightOf b) i S).1) ((pd_txs (a_tokenCount, a_tokenOp, a_tokenValue, a_inputCount, a_inputCoin, a_inputA, a_inputB, a_outputCount, a_outputAmount, a_outputScript, a_parentOf, a_heightOf, a_rewardScript, a_blockSize, a_blockTransaction, a_feeOf, a_rewardAmount) b (a_heightOf b) i S).2.1) ((pd_txs (a_tokenCount, a_tokenOp, a_tokenValue, a_inputCount, a_inputCoin, a_inputA, a_inputB, a_outputCount, a_outputAmount, a_outputScript, a_parentOf, a_heightOf, a_rewardScript, a_blockSize, a_blockTransaction, a_feeOf, a_rewardAmount) b (a_heightOf b) i S).2.2) a_poolRow a_marked a_queue := by
    intro d
    induction d with
    | zero =>
      intro i fuel ss st hi hf hok
      obtain ⟨fuel, rfl⟩ : ∃ q, fuel = q + 1 := ⟨fuel - 1, by omega⟩
      obtain rfl : i = n := by omega
      exact ⟨pk_in b 32 (by omega), br_t (by rw [enc]; exact nI_le (Nat.le_refl _) (by omega)) (H1 hok _ _ _ (pd_inv_out (pd_inv_txs w hb hpos I i (by show i ≤ (a_blockSize b).toNatClampNeg; omega))))⟩
    | succ d ih =>
      intro i fuel ss st hi hf hok
      obtain ⟨fuel, rfl⟩ : ∃ q, fuel = q + 1 := ⟨fuel - 1, by omega⟩
      obtain ⟨t, ht, et, etc⟩ := pd_bt_of w hb (i := i) (by show i < (a_blockSize b).toNatClampNeg; omega)
      have et' : a_blockTransaction (nI b * 4 + nI i).toNatClampNeg = nI t := by rw [pk_cl (4 * b + i) (xb_4 b i)]; exact et
      have ho : pd_out (pd_txs (a_tokenCount, a_tokenOp, a_tokenValue, a_inputCount, a_inputCoin, a_inputA, a_inputB, a_outputCount, a_outputAmount, a_outputScript, a_parentOf, a_heightOf, a_rewardScript, a_blockSize, a_blockTransaction, a_feeOf, a_rewardAmount) b (a_heightOf b) i S) := pd_inv_out (pd_inv_txs w hb hpos I i (by show i ≤ (a_blockSize b).toNatClampNeg; omega))
      have hf' := fall i (by omega)
      rw [etc] at hf'
      refine ⟨pk_in b 32 (by omega), pk_le n i (fun z => by omega) (fun z => ⟨pk_in (4 * b + i) 128 (by omega) (xb_4 b i), nm_r et' ⟨pk_in t 40 (by omega), ?_⟩⟩) enc⟩
      rw [pk_cl t]
      refine br_c (fun z0 => H0 (hf' fun q => absurd q.1 (Int32.not_lt.mpr z0)) _ _ _ ho) (fun z0 => ⟨pk_in b 32 (by omega), ?_⟩)
      rw [ehc]
      refine xm_may w tk ht hnp ep (fun _ => False) (fun _ _ z => z) (fun z => (z rfl).elim) (fun hyes ss' st' => ?_) (fun hno ss' st' => ?_)
      · refine br_f (by decide) ⟨pk_in b 32 (by omega), ?_⟩
        rw [ehc]
        refine xm_layTx w ht _ (nm_r (nI_1 i) ?_)
        have hok' : pd_okTxs (a_tokenCount, a_tokenOp, a_tokenValue, a_inputCount, a_inputCoin, a_inputA, a_inputB, a_outputCount, a_outputAmount, a_outputScript, a_parentOf, a_heightOf, a_rewardScript, a_blockSize, a_blockTransaction, a_feeOf, a_rewardAmount) b (a_heightOf b) (i + 1) S := ⟨hok, by rw [etc]; exact pd_may_ok.mp ⟨Int32.not_le.mp z0, hyes⟩⟩
        have := ih (i + 1) fuel ss' st' (by omega) (by omega) hok'
        rw [pd_txs, etc] at this
        exact this
      · exact br_t rfl (H0 (hf' fun q => hno (pd_may_ok.mpr q).2) _ _ _ ho)
  exact ⟨n + 1, key n 0 (n + 1) _ _ (by omega) (by omega) trivial⟩
theorem xm_ivp {made blocks b n : Nat} (w : pd_wf (a_tokenCount, a_tokenOp, a_tokenValue, a_inputCount, a_inputCoin, a_inputA, a_inputB, a_outputCount, a_outputAmount, a_outputScript, a_parentOf, a_heightOf, a_rewardScript, a_blockSize, a_blockTransaction, a_feeOf, a_rewardAmount) made blocks) (tk : fx_tok a_tokenCount a_tokenOp a_tokenValue) (hb : b < blocks) (he : a_heightOf b = nI (n + 1)) (hn : n + 1 < 32) {np : Nat} (hnp : np ≤ 12) (ep : f_poolCount = nI np) (S : pd_S) (hS : pd_out S)
    (hst : a_blockState (a_parentOf b).toNatClampNeg = 3 ↔ pd_valid (a_tokenCount, a_tokenOp, a_tokenValue, a_inputCount, a_inputCoin, a_inputA, a_inputB, a_outputCount, a_outputAmount, a_outputScript, a_parentOf, a_heightOf, a_rewardScript, a_blockSize, a_blockTransaction, a_feeOf, a_rewardAmount) n (a_parentOf b).toNatClampNeg) {post : Int32 → SX → Prop}
    (H1 : pd_valid (a_tokenCount, a_tokenOp, a_tokenValue, a_inputCount, a_inputCoin, a_inputA, a_inputB, a_outputCount, a_outputAmount, a_outputScript, a_parentOf, a_heightOf, a_rewardScript, a_blockSize, a_blockTransaction, a_feeOf, a_rewardAmount) (n + 1) b → ∀ S' ss st laid, pd_out S' → post 1 (ss, f_transactions, f_putCount, f_blocks, f_tip, f_poolCount, f_queueCount, a_tokenCount, a_tokenOp, a_tokenValue, a_scriptInUse, st, a_inputCount, a_inputCoin, a_inputA, a_inputB, a_outputCount, a_outputAmount, a_outputScript, a_feeOf, a_putRow, a_parentOf, a_heightOf, a_chainWork, a_blockState, a_rewardAmount, a_rewardScript, a_blockSize, a_blockTransaction, laid, (S').1, (S').2.1, (S').2.2, a_poolRow, a_marked, a_queue))
    (H0 : ¬ pd_valid (a_tokenCount, a_tokenOp, a_tokenValue, a_inputCount, a_inputCoin, a_inputA, a_inputB, a_outputCount, a_outputAmount, a_outputScript, a_parentOf, a_heightOf, a_rewardScript, a_blockSize, a_blockTransaction, a_feeOf, a_rewardAmount) (n + 1) b → ∀ S' ss st laid, pd_out S' → post 0 (ss, f_transactions, f_putCount, f_blocks, f_tip, f_poolCount, f_queueCount, a_tokenCount, a_tokenOp, a_tokenValue, a_scriptInUse, st, a_inputCount, a_inputCoin, a_inputA, a_inputB, a_outputCount, a_outputAmount, a_outputScript, a_feeOf, a_putRow, a_parentOf, a_heightOf, a_chainWork, a_blockState, a_rewardAmount, a_rewardScript, a_blockSize, a_blockTransaction, laid, (S').1, (S').2.1, (S').2.2, a_poolRow, a_marked, a_queue)) :
    wpX_isValidOnParent post (f_stackSize, f_transactions, f_putCount, f_blocks, f_tip, f_poolCount, f_queueCount, a_tokenCount, a_tokenOp, a_tokenValue, a_scriptInUse, a_stack, a_inputCount, a_inputCoin, a_inputA, a_inputB, a_outputCount, a_outputAmount, a_outputScript, a_feeOf, a_putRow, a_parentOf, a_heightOf, a_chainWork, a_blockState, a_rewardAmount, a_rewardScript, a_blockSize, a_blockTransaction, a_laidBlock, S.1, S.2.1, S.2.2, a_poolRow, a_marked, a_queue) (nI b) := by
  have hbk := w.2.1
  obtain ⟨p, q1, q2, q3, q4⟩ := pd_par w hb he (by omega)
  have q2' : a_parentOf (nI b).toNatClampNeg = nI p := by rw [pk_cl b]; exact q2
  have q3' : (a_parentOf b).toNatClampNeg = p := q3
  rw [q3'] at hst
  rw [pd_valid, q3] at H1 H0
  unfold wpX_isValidOnParent
  dsimp only
  rw [q2', pk_cl p]
  refine ⟨pk_in b 32 (by omega), pk_in p 32 (by omega), br_c (fun z => ⟨pk_in b 32 (by omega), ?_⟩) (fun z => H0 (fun q => z (hst.mpr q.1)) _ _ _ _ hS)⟩
  refine xm_layChain w (by omega) q4 (by omega) S hS fun laid _ => ?_
  refine xm_ivp29 w tk hb hnp ep _ (pd_inv_lay w n p (by omega) q4 (by omega)) (fun hok S' ss st ho => ?_) (fun hok S' ss st ho => ?_)
  · exact H1 ⟨hst.mp z, hok⟩ S' ss st laid ho
  · exact H0 (fun q => hok q.2) S' ss st laid ho
end
