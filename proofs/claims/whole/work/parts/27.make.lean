/-! make -/
def us_set (os : pd_F) (base : Nat) (use : pd_F) : Nat → pd_F
  | 0 => use
  | n + 1 => upd (us_set os base use n) (os (base + n)).toNatClampNeg 1
theorem us_set_or (os use : pd_F) (base s : Nat) : ∀ n, (us_set os base use n s = 1 ∧ ∃ o, o < n ∧ (os (base + o)).toNatClampNeg = s) ∨ (us_set os base use n s = use s ∧ ¬ ∃ o, o < n ∧ (os (base + o)).toNatClampNeg = s) := by
  intro n
  induction n with
  | zero => exact Or.inr ⟨rfl, fun ⟨o, h, _⟩ => by omega⟩
  | succ n ih =>
    by_cases e : s = (os (base + n)).toNatClampNeg
    · left
      refine ⟨?_, n, by omega, e.symm⟩
      rw [us_set, ← e, pk_us]
    · rw [us_set, pk_un e]
      rcases ih with ⟨h1, o, h2, h3⟩ | ⟨h1, h2⟩
      · exact Or.inl ⟨h1, o, by omega, h3⟩
      · refine Or.inr ⟨h1, fun ⟨o, q1, q2⟩ => ?_⟩
        by_cases e' : o = n
        · subst e'; exact e q2.symm
        · exact h2 ⟨o, by omega, q2⟩
def cp_set (f : pd_F) (base : Nat) : Nat → pd_F
  | 0 => f
  | k + 1 => upd (cp_set f base k) (base + k) (cp_set f base k (120 + k))
theorem cp_no {f : pd_F} {base j : Nat} : ∀ n, ¬ (base ≤ j ∧ j < base + n) → cp_set f base n j = f j := by
  intro n
  induction n with
  | zero => intro _; rfl
  | succ n ih => intro h; rw [cp_set, pk_un (by omega)]; exact ih (by omega)
theorem cp_in {f : pd_F} {base i : Nat} (hb : base + 3 ≤ 120) : ∀ n, n ≤ 3 → i < n → cp_set f base n (base + i) = f (120 + i) := by
  intro n
  induction n with
  | zero => intro _ h; omega
  | succ n ih =>
    intro hn hi
    by_cases e : i = n
    · subst e
      rw [cp_set, pk_us, cp_no i (by omega)]
    · rw [cp_set, pk_un (by omega)]; exact ih (by omega) (by omega)
theorem wf_ext {D : pd_D} {made blocks : Nat} (w : pd_wf D made blocks) (h : made + 1 ≤ 40) (t : pd_wfT D blocks made) : pd_wf D (made + 1) blocks := by
  obtain ⟨w1, w2, w3, w4, wT, wB⟩ := w
  refine ⟨w1, w2, h, w4, fun t' ht' => ?_, fun b hb => ?_⟩
  · by_cases e : t' = made
    · subst e; exact t
    · exact wT t' (by omega)
  · obtain ⟨q1, q2, ⟨n, n1, n2, n3⟩, q4⟩ := wB b hb
    refine ⟨q1, q2, ⟨n, n1, n2, fun i hi => ?_⟩, q4⟩
    obtain ⟨t', t1, t2⟩ := n3 i hi
    exact ⟨t', by omega, t2⟩
theorem ag_ext {D E : pd_D} {made blocks : Nat} (a : pd_ag D E made blocks) (t : pd_agT D E made) (s : ∀ s, pd_agS D E s) : pd_ag D E (made + 1) blocks := by
  refine ⟨fun t' ht' => ?_, a.2.1, fun s' _ => s s'⟩
  by_cases e : t' = made
  · subst e; exact t
  · exact a.1 t' (by omega)
section
variable {f_stackSize f_transactions f_putCount f_blocks f_tip f_poolCount f_queueCount : Int32} {a_tokenCount a_tokenOp a_tokenValue a_scriptInUse a_stack a_inputCount a_inputCoin a_inputA a_inputB a_outputCount a_outputAmount a_outputScript a_feeOf a_putRow a_parentOf a_heightOf a_chainWork a_blockState a_rewardAmount a_rewardScript a_blockSize a_blockTransaction a_laidBlock a_coinHeight a_coinSpent a_transactionHeight a_poolRow a_marked a_queue : Nat → Int32}
theorem ag_fee {made blocks : Nat} {fe' : Nat → Int32} (hf : ∀ t, t < made → fe' t = a_feeOf t) : pd_ag (a_tokenCount, a_tokenOp, a_tokenValue, a_inputCount, a_inputCoin, a_inputA, a_inputB, a_outputCount, a_outputAmount, a_outputScript, a_parentOf, a_heightOf, a_rewardScript, a_blockSize, a_blockTransaction, a_feeOf, a_rewardAmount) (a_tokenCount, a_tokenOp, a_tokenValue, a_inputCount, a_inputCoin, a_inputA, a_inputB, a_outputCount, a_outputAmount, a_outputScript, a_parentOf, a_heightOf, a_rewardScript, a_blockSize, a_blockTransaction, fe', a_rewardAmount) made blocks :=
  ⟨fun t ht => ⟨rfl, rfl, hf t ht, fun _ _ => ⟨rfl, rfl, rfl⟩, fun _ _ => ⟨rfl, rfl⟩⟩, fun b _ => ⟨rfl, rfl, rfl, rfl, fun _ => rfl, fun _ _ => rfl⟩, fun s _ => ⟨rfl, fun _ _ => ⟨rfl, rfl⟩⟩⟩
theorem ag_cpy {made blocks : Nat} {fe' c1 c2 c3 c4 c5 c6 c7 : Nat → Int32} (w : pd_wf (a_tokenCount, a_tokenOp, a_tokenValue, a_inputCount, a_inputCoin, a_inputA, a_inputB, a_outputCount, a_outputAmount, a_outputScript, a_parentOf, a_heightOf, a_rewardScript, a_blockSize, a_blockTransaction, a_feeOf, a_rewardAmount) made blocks) (hf : ∀ t, t < made → fe' t = a_feeOf t) (h1 : ∀ t, t < made → c1 t = a_inputCount t) (h5 : ∀ t, t < made → c5 t = a_outputCount t) (h2 : ∀ j, j < 3 * made → c2 j = a_inputCoin j) (h3 : ∀ j, j < 3 * made → c3 j = a_inputA j) (h4 : ∀ j, j < 3 * made → c4 j = a_inputB j) (h6 : ∀ j, j < 3 * made → c6 j = a_outputAmount j) (h7 : ∀ j, j < 3 * made → c7 j = a_outputScript j) :
    pd_ag (a_tokenCount, a_tokenOp, a_tokenValue, a_inputCount, a_inputCoin, a_inputA, a_inputB, a_outputCount, a_outputAmount, a_outputScript, a_parentOf, a_heightOf, a_rewardScript, a_blockSize, a_blockTransaction, a_feeOf, a_rewardAmount) (a_tokenCount, a_tokenOp, a_tokenValue, c1, c2, c3, c4, c5, c6, c7, a_parentOf, a_heightOf, a_rewardScript, a_blockSize, a_blockTransaction, fe', a_rewardAmount) made blocks := by
  refine ⟨fun t ht => ?_, fun b _ => ⟨rfl, rfl, rfl, rfl, fun _ => rfl, fun _ _ => rfl⟩, fun s _ => ⟨rfl, fun _ _ => ⟨rfl, rfl⟩⟩⟩
  obtain ⟨n, m, _, hn, _, hm3, en, em, _⟩ := w.2.2.2.2.1 _ ht
  have enc := pd_cl en (by omega)
  have emc := pd_cl em (by omega)
  exact ⟨h1 t ht, h5 t ht, hf t ht, fun i hi => ⟨h2 _ (by omega), h3 _ (by omega), h4 _ (by omega)⟩, fun o ho => ⟨h6 _ (by omega), h7 _ (by omega)⟩⟩
theorem xm_feeDraft {made di od : Nat} (hm : made ≤ 40) (h1 : di ≤ 3) (h2 : od ≤ 3) (e1 : a_inputCount made = nI di) (e2 : a_outputCount made = nI od) (hc : ∀ i, i < di → ∃ c, c < 152 ∧ a_inputCoin (3 * made + i) = nI c) {post : Int32 → Prop}
    (H : post (pd_sout (pd_sin (pd_amt (a_tokenCount, a_tokenOp, a_tokenValue, a_inputCount, a_inputCoin, a_inputA, a_inputB, a_outputCount, a_outputAmount, a_outputScript, a_parentOf, a_heightOf, a_rewardScript, a_blockSize, a_blockTransaction, a_feeOf, a_rewardAmount)) a_inputCoin (3 * made) di) a_outputAmount (3 * made) od)) : wpX_feeOfDraft post (f_stackSize, nI made, f_putCount, f_blocks, f_tip, f_poolCount, f_queueCount, a_tokenCount, a_tokenOp, a_tokenValue, a_scriptInUse, a_stack, a_inputCount, a_inputCoin, a_inputA, a_inputB, a_outputCount, a_outputAmount, a_outputScript, a_feeOf, a_putRow, a_parentOf, a_heightOf, a_chainWork, a_blockState, a_rewardAmount, a_rewardScript, a_blockSize, a_blockTransaction, a_laidBlock, a_coinHeight, a_coinSpent, a_transactionHeight, a_poolRow, a_marked, a_queue) := by
  have emc : (nI made).toNatClampNeg = made := pk_cl made
  have e1c : a_inputCount (nI made).toNatClampNeg = nI di := by rw [emc]; exact e1
  have e2c : a_outputCount (nI made).toNatClampNeg = nI od := by rw [emc]; exact e2
  have L47 : ∀ (d i fuel : Nat), i + d = od → d < fuel → wX_feeOfDraft_47 post (nI (3 * made)) f_stackSize (nI made) f_putCount f_blocks f_tip f_poolCount f_queueCount a_tokenCount a_tokenOp a_tokenValue a_scriptInUse a_stack a_inputCount a_inputCoin a_inputA a_inputB a_outputCount a_outputAmount a_outputScript a_feeOf a_putRow a_parentOf a_heightOf a_chainWork a_blockState a_rewardAmount a_rewardScript a_blockSize a_blockTransaction a_laidBlock a_coinHeight a_coinSpent a_transactionHeight a_poolRow a_marked a_queue fuel (pd_sout (pd_sin (pd_amt (a_tokenCount, a_tokenOp, a_tokenValue, a_inputCount, a_inputCoin, a_inputA, a_inputB, a_outputCount, a_outputAmount, a_outputScript, a_parentOf, a_heightOf, a_rewardScript, a_blockSize, a_blockTransaction, a_feeOf, a_rewardAmount)) a_inputCoin (3 * made) di) a_outputAmount (3 * made) i) (nI i) := by
    intro d
    induction d with
    | zero =>
      intro i fuel hi hf
      obtain ⟨fuel, rfl⟩ : ∃ q, fuel = q + 1 := ⟨fuel - 1, by omega⟩
      obtain rfl : i = od := by omega
      exact ⟨pk_in made 41 (by omega), br_t (by rw [e2c]; exact nI_le (Nat.le_refl _) (by omega)) H⟩
    | succ d ih =>
      intro i fuel hi hf
      obtain ⟨fuel, rfl⟩ : ∃ q, fuel = q + 1 := ⟨fuel - 1, by omega⟩
      exact ⟨pk_in made 41 (by omega), pk_le od i (fun z => by omega) (fun z => ⟨pk_in (3 * made + i) 123 (by omega) (nI_add _ _), nm_r (by rw [pk_cl (3 * made + i) (nI_add _ _)] <;> rfl) (nm_r (nI_1 i) (ih (i + 1) fuel (by omega) (by omega)))⟩) e2c⟩
  have L11 : ∀ (d i fuel : Nat), i + d = di → d < fuel → wX_feeOfDraft_11 post (nI (3 * made)) f_stackSize (nI made) f_putCount f_blocks f_tip f_poolCount f_queueCount a_tokenCount a_tokenOp a_tokenValue a_scriptInUse a_stack a_inputCount a_inputCoin a_inputA a_inputB a_outputCount a_outputAmount a_outputScript a_feeOf a_putRow a_parentOf a_heightOf a_chainWork a_blockState a_rewardAmount a_rewardScript a_blockSize a_blockTransaction a_laidBlock a_coinHeight a_coinSpent a_transactionHeight a_poolRow a_marked a_queue fuel (pd_sin (pd_amt (a_tokenCount, a_tokenOp, a_tokenValue, a_inputCount, a_inputCoin, a_inputA, a_inputB, a_outputCount, a_outputAmount, a_outputScript, a_parentOf, a_heightOf, a_rewardScript, a_blockSize, a_blockTransaction, a_feeOf, a_rewardAmount)) a_inputCoin (3 * made) i) (nI i) := by
    intro d
    induction d with
    | zero =>
      intro i fuel hi hf
      obtain ⟨fuel, rfl⟩ : ∃ q, fuel = q + 1 := ⟨fuel - 1, by omega⟩
      obtain rfl : i = di := by omega
      exact ⟨pk_in made 41 (by omega), br_t (by rw [e1c]; exact nI_le (Nat.le_refl _) (by omega)) ⟨od + 1, L47 od 0 (od + 1) (by omega) (by omega)⟩⟩
    | succ d ih =>
      intro i fuel hi hf
      obtain ⟨fuel, rfl⟩ : ∃ q, fuel = q + 1 := ⟨fuel - 1, by omega⟩
      obtain ⟨c, hc1, hc2⟩ := hc i (by omega)
      have hnx := ih (i + 1) fuel (by omega) (by omega)
      rw [pd_sin, hc2, nI_clamp (by omega)] at hnx
      refine ⟨pk_in made 41 (by omega), pk_le di i (fun z => by omega) (fun z => ⟨pk_in (3 * made + i) 123 (by omega) (nI_add _ _), ?_⟩) e1c⟩
      rw [pk_cl (3 * made + i) (nI_add _ _), hc2]
      exact xm_amountOf hc1 (nm_e (nm_r (nI_1 i) hnx))
  have e3 : nI made * 3 = nI (3 * made) := by rw [show (3 : Int32) = nI 3 from rfl, pk_mul, Nat.mul_comm]
  exact nm_r e3 ⟨di + 1, L11 di 0 (di + 1) (by omega) (by omega)⟩
theorem xm_make46 {made od : Nat} (hm : made < 40) (h2 : od ≤ 3) (e2 : a_outputCount made = nI od) (hs : ∀ o, o < od → ∃ s, s < 8 ∧ a_outputScript (3 * made + o) = nI s) {post : Int32 → SX → Prop}
    (H : post (nI made) (f_stackSize, nI (made + 1), f_putCount, f_blocks, f_tip, f_poolCount, f_queueCount, a_tokenCount, a_tokenOp, a_tokenValue, us_set a_outputScript (3 * made) a_scriptInUse od, a_stack, a_inputCount, a_inputCoin, a_inputA, a_inputB, a_outputCount, a_outputAmount, a_outputScript, a_feeOf, a_putRow, a_parentOf, a_heightOf, a_chainWork, a_blockState, a_rewardAmount, a_rewardScript, a_blockSize, a_blockTransaction, a_laidBlock, a_coinHeight, a_coinSpent, a_transactionHeight, a_poolRow, a_marked, a_queue)) : ∃ fuel, wX_make_46 post (nI made) f_stackSize (nI made) f_putCount f_blocks f_tip f_poolCount f_queueCount fuel 0 a_tokenCount a_tokenOp a_tokenValue a_scriptInUse a_stack a_inputCount a_inputCoin a_inputA a_inputB a_outputCount a_outputAmount a_outputScript a_feeOf a_putRow a_parentOf a_heightOf a_chainWork a_blockState a_rewardAmount a_rewardScript a_blockSize a_blockTransaction a_laidBlock a_coinHeight a_coinSpent a_transactionHeight a_poolRow a_marked a_queue := by
  have e2c : a_outputCount (nI made).toNatClampNeg = nI od := by rw [pk_cl made]; exact e2
  have key : ∀ (d i fuel : Nat), i + d = od → d < fuel → wX_make_46 post (nI made) f_stackSize (nI made) f_putCount f_blocks f_tip f_poolCount f_queueCount fuel (nI i) a_tokenCount a_tokenOp a_tokenValue (us_set a_outputScript (3 * made) a_scriptInUse i) a_stack a_inputCount a_inputCoin a_inputA a_inputB a_outputCount a_outputAmount a_outputScript a_feeOf a_putRow a_parentOf a_heightOf a_chainWork a_blockState a_rewardAmount a_rewardScript a_blockSize a_blockTransaction a_laidBlock a_coinHeight a_coinSpent a_transactionHeight a_poolRow a_marked a_queue := by
    intro d
    induction d with
    | zero =>
      intro i fuel hi hf
      obtain ⟨fuel, rfl⟩ : ∃ q, fuel = q + 1 := ⟨fuel - 1, by omega⟩
      obtain rfl : i = od := by omega
      exact ⟨pk_in made 41 (by omega), br_t (by rw [e2c]; exact nI_le (Nat.le_refl _) (by omega)) (nm_r (nI_1 made) H)⟩
    | succ d ih =>
      intro i fuel hi hf
      obtain ⟨fuel, rfl⟩ : ∃ q, fuel = q + 1 := ⟨fuel - 1, by omega⟩
      obtain ⟨s, hs1, hs2⟩ := hs i (by omega)
      refine ⟨pk_in made 41 (by omega), pk_le od i (fun z => by omega) (fun z => ⟨pk_in (3 * made + i) 123 (by omega) (xb_3 made i), nm_r ((congrArg a_outputScript (pk_cl (3 * made + i) (xb_3 made i))).trans hs2) ⟨pk_in s 8 hs1, nm_r (e' := us_set a_outputScript (3 * made) a_scriptInUse (i + 1)) ?_ (nm_r (nI_1 i) (ih (i + 1) fuel (by omega) (by omega)))⟩⟩) e2c⟩
      rw [us_set, hs2]; rfl
  exact ⟨od + 1, key od 0 (od + 1) (by omega) (by omega)⟩
end
section
variable {g_made g_blocks g_arrivals g_tip g_pooled g_chainLength : Int32} {b_op b_arg b_length b_ins b_inCoin b_inA b_inB b_outs b_amount b_lock b_parent b_work b_rewardLock b_height b_many b_holds b_delivered b_arrived b_pool b_chain b_from b_worth b_within b_spent b_stack b_again b_chosen gfe grw : Nat → Int32}
theorem ym_make68 {made : Nat} (hm : made < 40) {post : Int32 → SY → Prop}
    (H : post (nI made) (nI (made + 1), g_blocks, g_arrivals, g_tip, g_pooled, g_chainLength, b_op, b_arg, b_length, upd b_ins 40 0, cp_set b_inCoin (3 * made) 3, cp_set b_inA (3 * made) 3, cp_set b_inB (3 * made) 3, upd b_outs 40 0, cp_set b_amount (3 * made) 3, cp_set b_lock (3 * made) 3, b_parent, b_work, b_rewardLock, b_height, b_many, b_holds, b_delivered, b_arrived, b_pool, b_chain, b_from, b_worth, b_within, b_spent, b_stack, b_again, b_chosen)) : ∃ fuel, wY_make_68 post (nI made) g_blocks g_arrivals g_tip g_pooled g_chainLength fuel 0 b_op b_arg b_length b_ins b_inCoin b_inA b_inB b_outs b_amount b_lock b_parent b_work b_rewardLock b_height b_many b_holds b_delivered b_arrived b_pool b_chain b_from b_worth b_within b_spent b_stack b_again b_chosen := by
  have key : ∀ (d i fuel : Nat), i + d = 3 → d < fuel → wY_make_68 post (nI made) g_blocks g_arrivals g_tip g_pooled g_chainLength fuel (nI i) b_op b_arg b_length b_ins (cp_set b_inCoin (3 * made) i) (cp_set b_inA (3 * made) i) (cp_set b_inB (3 * made) i) b_outs (cp_set b_amount (3 * made) i) (cp_set b_lock (3 * made) i) b_parent b_work b_rewardLock b_height b_many b_holds b_delivered b_arrived b_pool b_chain b_from b_worth b_within b_spent b_stack b_again b_chosen := by
    intro d
    induction d with
    | zero =>
      intro i fuel hi hf
      obtain ⟨fuel, rfl⟩ : ∃ q, fuel = q + 1 := ⟨fuel - 1, by omega⟩
      obtain rfl : i = 3 := by omega
      refine br_t (by decide) (nm_e (nm_e (nm_r (nI_1 made) ?_)))
      rw [nI_pred]
      exact H
    | succ d ih =>
      intro i fuel hi hf
      obtain ⟨fuel, rfl⟩ : ∃ q, fuel = q + 1 := ⟨fuel - 1, by omega⟩
      have i1 : vp_in (120 + nI i) 123 := pk_in (120 + i) 123 (by omega) (nI_add 120 i)
      have i2 : vp_in (3 * nI made + nI i) 123 := pk_in (3 * made + i) 123 (by omega) (yb_3 made i)
      have c1 : ((120 : Int32) + nI i).toNatClampNeg = 120 + i := pk_cl (120 + i) (nI_add 120 i)
      have c2 : (3 * nI made + nI i).toNatClampNeg = 3 * made + i := pk_cl (3 * made + i) (yb_3 made i)
      refine pk_le 3 i (fun z => by omega) (fun z => ⟨i1, i2, nm_r (by rw [c1, c2] <;> rfl) ⟨i1, i2, nm_r (by rw [c1, c2] <;> rfl) ⟨i1, i2, nm_r (by rw [c1, c2] <;> rfl) ⟨i1, i2, nm_r (by rw [c1, c2] <;> rfl) ⟨i1, i2, nm_r (by rw [c1, c2] <;> rfl) (nm_r (nI_1 i) (ih (i + 1) fuel (by omega) (by omega)))⟩⟩⟩⟩⟩)
  exact ⟨4, key 3 0 4 (by omega) (by omega)⟩
end
/-- the draft as a transaction -/
def dr_tx (D E : pd_D) (made blocks di od : Nat) : Prop := pd_ic D made = nI di ∧ pd_oc D made = nI od ∧ pd_ic E 40 = nI di ∧ pd_oc E 40 = nI od
    ∧ (∀ i, i < di → pd_co D (3 * made + i) = pd_co E (120 + i) ∧ pd_ia D (3 * made + i) = pd_ia E (120 + i) ∧ pd_ib D (3 * made + i) = pd_ib E (120 + i) ∧ ∃ c, c < 152 ∧ pd_co D (3 * made + i) = nI c ∧ pd_coin D made blocks c)
    ∧ (∀ i j, i < di → j < di → pd_co D (3 * made + i) = pd_co D (3 * made + j) → i = j)
    ∧ (∀ o, o < od → pd_oa D (3 * made + o) = pd_oa E (120 + o) ∧ pd_os D (3 * made + o) = pd_os E (120 + o) ∧ ∃ s, s < 8 ∧ pd_os D (3 * made + o) = nI s)
theorem rm_wT {D : pd_D} {E : pd_D} {made blocks di od : Nat} (d1 : di ≤ 3) (d2 : od ≤ 3) (hi0 : 0 < di) (ho0 : 0 < od) (d : dr_tx D E made blocks di od) : pd_wfT D blocks made := by
  obtain ⟨e1, e2, _, _, d7, d8, d9⟩ := d
  refine ⟨di, od, hi0, d1, ho0, d2, e1, e2, fun i hi => ?_, d8, fun o ho => ?_⟩
  · obtain ⟨_, _, _, c, c1, c2, c3⟩ := d7 i hi
    exact ⟨c, c1, c2, c3⟩
  · obtain ⟨_, _, s, s1, s2⟩ := d9 o ho
    exact ⟨s, s1, s2⟩
theorem rm_us {D : pd_D} {E : pd_D} {made blocks di od : Nat} {use use' : pd_F} (d2 : od ≤ 3) (d : dr_tx D E made blocks di od) (us : cn_used D use made blocks)
    (hu : ∀ s, (use' s = 1 ∧ ∃ o, o < od ∧ (pd_os D (3 * made + o)).toNatClampNeg = s) ∨ (use' s = use s ∧ ¬ ∃ o, o < od ∧ (pd_os D (3 * made + o)).toNatClampNeg = s)) : cn_used D use' (made + 1) blocks := by
  obtain ⟨e1, e2, _, _, d7, d8, d9⟩ := d
  have eoc : (pd_oc D made).toNatClampNeg = od := pd_cl e2 (by omega)
  intro s hs
  have hiff : pd_used D (made + 1) blocks s ↔ (pd_used D made blocks s ∨ ∃ o, o < od ∧ (pd_os D (3 * made + o)).toNatClampNeg = s) := by
    constructor
    · rintro (⟨b, h1, h2⟩ | ⟨t, o, h1, h2, h3⟩)
      · exact Or.inl (Or.inl ⟨b, h1, h2⟩)
      · by_cases e : t = made
        · subst e
          exact Or.inr ⟨o, by omega, by rw [h3]; exact pk_cl s⟩
        · exact Or.inl (Or.inr ⟨t, o, by omega, h2, h3⟩)
    · rintro ((⟨b, h1, h2⟩ | ⟨t, o, h1, h2, h3⟩) | ⟨o, h1, h2⟩)
      · exact Or.inl ⟨b, h1, h2⟩
      · exact Or.inr ⟨t, o, by omega, h2, h3⟩
      · obtain ⟨_, _, s', s1, s2⟩ := d9 o h1
        refine Or.inr ⟨made, o, by omega, by omega, ?_⟩
        rw [s2, pk_cl (x := nI s') s'] at h2
        rw [s2, h2]
  rw [hiff]
  rcases hu s with ⟨h1, h2⟩ | ⟨h1, h2⟩
  · exact Or.inr ⟨h1, Or.inr h2⟩
  · rw [h1]
    rcases us s hs with ⟨q1, q2⟩ | ⟨q1, q2⟩
    · exact Or.inl ⟨q1, fun q => by rcases q with q | q; exact q2 q; exact h2 q⟩
    · exact Or.inr ⟨q1, Or.inl q2⟩
theorem rm_fq {D : pd_D} {made di od : Nat} (d1 : di ≤ 3) (d2 : od ≤ 3) (e1 : pd_ic D made = nI di) (e2 : pd_oc D made = nI od) (fq : pd_feq D made) (hfm : pd_fe D made = pd_sout (pd_sin (pd_amt D) (pd_co D) (3 * made) di) (pd_oa D) (3 * made) od) : pd_feq D (made + 1) := by
  intro t ht
  by_cases e : t = made
  · subst e
    rw [hfm, pd_cl e1 (by omega), pd_cl e2 (by omega)]
  · exact fq t (by omega)
theorem rm_aT {D E F : pd_D} {made blocks di od : Nat} (d1 : di ≤ 3) (d2 : od ≤ 3) (d : dr_tx D E made blocks di od) (hf : pd_fe F made = pd_fe D made) (h1 : pd_ic F made = pd_ic E 40) (h5 : pd_oc F made = pd_oc E 40)
    (h2 : ∀ i, i < 3 → pd_co F (3 * made + i) = pd_co E (120 + i)) (h3 : ∀ i, i < 3 → pd_ia F (3 * made + i) = pd_ia E (120 + i)) (h4 : ∀ i, i < 3 → pd_ib F (3 * made + i) = pd_ib E (120 + i)) (h6 : ∀ i, i < 3 → pd_oa F (3 * made + i) = pd_oa E (120 + i)) (h7 : ∀ i, i < 3 → pd_os F (3 * made + i) = pd_os E (120 + i)) : pd_agT D F made := by
  obtain ⟨e1, e2, e3, e4, d7, d8, d9⟩ := d
  refine ⟨h1.trans (e3.trans e1.symm), h5.trans (e4.trans e2.symm), hf, fun i hi => ?_, fun o ho => ?_⟩
  · rw [pd_cl e1 (by omega)] at hi
    obtain ⟨q1, q2, q3, _⟩ := d7 i hi
    exact ⟨(h2 i (by omega)).trans q1.symm, (h3 i (by omega)).trans q2.symm, (h4 i (by omega)).trans q3.symm⟩
  · rw [pd_cl e2 (by omega)] at ho
    obtain ⟨q1, q2, _⟩ := d9 o ho
    exact ⟨(h6 o (by omega)).trans q1.symm, (h7 o (by omega)).trans q2.symm⟩
theorem rm_df {D F : pd_D} {made blocks : Nat} (h40 : made + 1 ≤ 40) (d10 : ∀ t, made < t → t ≤ 40 → pd_ic D t = 0 ∧ pd_oc D t = 0) (h1 : pd_ic F 40 = 0) (h2 : pd_oc F 40 = 0) : cn_drf D F (made + 1) blocks :=
  ⟨0, 0, by omega, by omega, (d10 (made + 1) (by omega) h40).1, h1, (d10 (made + 1) (by omega) h40).2, h2, fun i hi => by omega, fun i j hi => by omega, fun o ho => by omega, fun t g1 g2 => d10 t (by omega) g2⟩
theorem rm_pu {D E D' E' : pd_D} {made pc : Nat} {pr : pd_F} (h1 : pd_bs E' = pd_bs E) (h2 : pd_bt E' = pd_bt E) (p : cn_put D E pr made pc) : cn_put D' E' pr (made + 1) pc := by
  obtain ⟨p1, p2, p3⟩ := p
  refine ⟨p1, by rw [h1]; exact p2, fun i hi => ?_⟩
  obtain ⟨q1, t, q2, q3⟩ := p3 i hi
  exact ⟨by rw [h2]; exact q1, t, by omega, q3⟩
section
variable {f_stackSize f_transactions f_putCount f_blocks f_tip f_poolCount f_queueCount : Int32} {a_tokenCount a_tokenOp a_tokenValue a_scriptInUse a_stack a_inputCount a_inputCoin a_inputA a_inputB a_outputCount a_outputAmount a_outputScript a_feeOf a_putRow a_parentOf a_heightOf a_chainWork a_blockState a_rewardAmount a_rewardScript a_blockSize a_blockTransaction a_laidBlock a_coinHeight a_coinSpent a_transactionHeight a_poolRow a_marked a_queue : Nat → Int32}
variable {g_made g_blocks g_arrivals g_tip g_pooled g_chainLength : Int32} {b_op b_arg b_length b_ins b_inCoin b_inA b_inB b_outs b_amount b_lock b_parent b_work b_rewardLock b_height b_many b_holds b_delivered b_arrived b_pool b_chain b_from b_worth b_within b_spent b_stack b_again b_chosen gfe grw : Nat → Int32}
theorem rl_make {D : pd_D} {k made blocks tp n np pc ar : Nat} (w : pd_wf D made blocks) (a : pd_ag D (a_tokenCount, a_tokenOp, a_tokenValue, a_inputCount, a_inputCoin, a_inputA, a_inputB, a_outputCount, a_outputAmount, a_outputScript, a_parentOf, a_heightOf, a_rewardScript, a_blockSize, a_blockTransaction, a_feeOf, a_rewardAmount) made blocks) (w2 : pd_wf (a_tokenCount, a_tokenOp, a_tokenValue, a_inputCount, a_inputCoin, a_inputA, a_inputB, a_outputCount, a_outputAmount, a_outputScript, a_parentOf, a_heightOf, a_rewardScript, a_blockSize, a_blockTransaction, a_feeOf, a_rewardAmount) (made + 1) blocks) (aE : pd_ag (a_tokenCount, a_tokenOp, a_tokenValue, a_inputCount, a_inputCoin, a_inputA, a_inputB, a_outputCount, a_outputAmount, a_outputScript, a_parentOf, a_heightOf, a_rewardScript, a_blockSize, a_blockTransaction, a_feeOf, a_rewardAmount) (a_tokenCount, a_tokenOp, a_tokenValue, b_ins, b_inCoin, b_inA, b_inB, b_outs, b_amount, b_lock, b_parent, b_height, b_rewardLock, b_many, b_holds, a_feeOf, a_rewardAmount) (made + 1) blocks) (tk : fx_tok a_tokenCount a_tokenOp a_tokenValue) (fq : pd_feq (a_tokenCount, a_tokenOp, a_tokenValue, a_inputCount, a_inputCoin, a_inputA, a_inputB, a_outputCount, a_outputAmount, a_outputScript, a_parentOf, a_heightOf, a_rewardScript, a_blockSize, a_blockTransaction, a_feeOf, a_rewardAmount) (made + 1)) (rq : pd_req D blocks) (hp0 : b_parent 0 = -1) (us : cn_used (a_tokenCount, a_tokenOp, a_tokenValue, a_inputCount, a_inputCoin, a_inputA, a_inputB, a_outputCount, a_outputAmount, a_outputScript, a_parentOf, a_heightOf, a_rewardScript, a_blockSize, a_blockTransaction, a_feeOf, a_rewardAmount) a_scriptInUse (made + 1) blocks)
    (df : cn_drf (a_tokenCount, a_tokenOp, a_tokenValue, a_inputCount, a_inputCoin, a_inputA, a_inputB, a_outputCount, a_outputAmount, a_outputScript, a_parentOf, a_heightOf, a_rewardScript, a_blockSize, a_blockTransaction, a_feeOf, a_rewardAmount) (a_tokenCount, a_tokenOp, a_tokenValue, b_ins, b_inCoin, b_inA, b_inB, b_outs, b_amount, b_lock, b_parent, b_height, b_rewardLock, b_many, b_holds, a_feeOf, a_rewardAmount) (made + 1) blocks) (pu : cn_put (a_tokenCount, a_tokenOp, a_tokenValue, a_inputCount, a_inputCoin, a_inputA, a_inputB, a_outputCount, a_outputAmount, a_outputScript, a_parentOf, a_heightOf, a_rewardScript, a_blockSize, a_blockTransaction, a_feeOf, a_rewardAmount) (a_tokenCount, a_tokenOp, a_tokenValue, b_ins, b_inCoin, b_inA, b_inB, b_outs, b_amount, b_lock, b_parent, b_height, b_rewardLock, b_many, b_holds, a_feeOf, a_rewardAmount) a_putRow (made + 1) pc) (fr : cn_fre (a_tokenCount, a_tokenOp, a_tokenValue, a_inputCount, a_inputCoin, a_inputA, a_inputB, a_outputCount, a_outputAmount, a_outputScript, a_parentOf, a_heightOf, a_rewardScript, a_blockSize, a_blockTransaction, a_feeOf, a_rewardAmount) blocks)
    (B : cn_blk D a_blockState b_delivered b_arrived a_chainWork b_work blocks ar tp 99) (RD : cn_rdy D b_delivered b_arrived blocks) (eh : pd_he D tp = nI n) (hn : n < 32) (hl : ∀ h, h ≤ n → a_laidBlock h = nI (pd_anc D tp (n - h))) (P : pd_pool D (pd_lay D n tp) made a_poolRow np) (hS : pd_out (b_from, b_spent, b_within)) :
    i_Rel k (f_stackSize, nI (made + 1), nI pc, nI blocks, nI tp, nI np, f_queueCount, a_tokenCount, a_tokenOp, a_tokenValue, a_scriptInUse, a_stack, a_inputCount, a_inputCoin, a_inputA, a_inputB, a_outputCount, a_outputAmount, a_outputScript, a_feeOf, a_putRow, a_parentOf, a_heightOf, a_chainWork, a_blockState, a_rewardAmount, a_rewardScript, a_blockSize, a_blockTransaction, a_laidBlock, (pd_lay D n tp).1, (pd_lay D n tp).2.1, (pd_lay D n tp).2.2, a_poolRow, a_marked, a_queue) (nI (made + 1), nI blocks, nI ar, nI tp, nI np, g_chainLength, a_tokenOp, a_tokenValue, a_tokenCount, b_ins, b_inCoin, b_inA, b_inB, b_outs, b_amount, b_lock, b_parent, b_work, b_rewardLock, b_height, b_many, b_holds, b_delivered, b_arrived, a_poolRow, b_chain, b_from, b_worth, b_within, b_spent, b_stack, b_again, b_chosen) := by
  have htp := B.2.2.2.2.2.1.1
  have el := pd_ag_lay w a n tp htp eh hn
  refine ⟨made + 1, blocks, tp, n, np, pc, ar, ⟨rfl, rfl, rfl, rfl, rfl⟩, ⟨rfl, rfl, rfl, rfl, rfl⟩, ⟨rfl, rfl, rfl, rfl⟩, ⟨by rw [el], by rw [el], by rw [el]⟩, ⟨tk, w2, aE, fq, pd_req_ag w a rq, hp0, us, df, pu, fr⟩, cn_blk_ag w a B, cn_rdy_ag a RD, ⟨((a.2.1 tp htp).1).trans eh, hn⟩, fun h hh => ?_, ?_, hS⟩
  · rw [hl h hh, (pd_ag_anc w a htp eh hn (n - h) (by omega)).1]
  · rw [el]; exact pd_pool_mono (by omega) (pd_pool_ag a P)
theorem dr_of {made blocks di od : Nat} {fe' : Nat → Int32} (hf : ∀ t, t < made → fe' t = a_feeOf t) (d1 : di ≤ 3) (d2 : od ≤ 3) (ei : a_inputCount made = nI di) (eo : a_outputCount made = nI od) (df : cn_drf (a_tokenCount, a_tokenOp, a_tokenValue, a_inputCount, a_inputCoin, a_inputA, a_inputB, a_outputCount, a_outputAmount, a_outputScript, a_parentOf, a_heightOf, a_rewardScript, a_blockSize, a_blockTransaction, a_feeOf, a_rewardAmount) (a_tokenCount, a_tokenOp, a_tokenValue, b_ins, b_inCoin, b_inA, b_inB, b_outs, b_amount, b_lock, b_parent, b_height, b_rewardLock, b_many, b_holds, a_feeOf, a_rewardAmount) made blocks) : dr_tx (a_tokenCount, a_tokenOp, a_tokenValue, a_inputCount, a_inputCoin, a_inputA, a_inputB, a_outputCount, a_outputAmount, a_outputScript, a_parentOf, a_heightOf, a_rewardScript, a_blockSize, a_blockTransaction, fe', a_rewardAmount) (a_tokenCount, a_tokenOp, a_tokenValue, b_ins, b_inCoin, b_inA, b_inB, b_outs, b_amount, b_lock, b_parent, b_height, b_rewardLock, b_many, b_holds, a_feeOf, a_rewardAmount) made blocks di od ∧ ∀ t, made < t → t ≤ 40 → pd_ic (a_tokenCount, a_tokenOp, a_tokenValue, a_inputCount, a_inputCoin, a_inputA, a_inputB, a_outputCount, a_outputAmount, a_outputScript, a_parentOf, a_heightOf, a_rewardScript, a_blockSize, a_blockTransaction, fe', a_rewardAmount) t = 0 ∧ pd_oc (a_tokenCount, a_tokenOp, a_tokenValue, a_inputCount, a_inputCoin, a_inputA, a_inputB, a_outputCount, a_outputAmount, a_outputScript, a_parentOf, a_heightOf, a_rewardScript, a_blockSize, a_blockTransaction, fe', a_rewardAmount) t = 0 := by
  obtain ⟨di', od', _, _, d3, d4, d5, d6, d7, d8, d9, d10⟩ := df
  have d3' : a_inputCount made = nI di' := d3
  have d5' : a_outputCount made = nI od' := d5
  obtain rfl : di = di' := by rw [ei, nI_eq (by omega) (by omega)] at d3'; exact d3'
  obtain rfl : od = od' := by rw [eo, nI_eq (by omega) (by omega)] at d5'; exact d5'
  refine ⟨⟨ei, eo, d4, d6, fun i hi => ?_, d8, d9⟩, d10⟩
  obtain ⟨q1, q2, q3, c, c1, c2, c3⟩ := d7 i hi
  exact ⟨q1, q2, q3, c, c1, c2, (pd_ag_coin (ag_fee hf) (Nat.le_refl _)).mpr c3⟩
theorem am_fee {fe' : Nat → Int32} : pd_amt (a_tokenCount, a_tokenOp, a_tokenValue, a_inputCount, a_inputCoin, a_inputA, a_inputB, a_outputCount, a_outputAmount, a_outputScript, a_parentOf, a_heightOf, a_rewardScript, a_blockSize, a_blockTransaction, fe', a_rewardAmount) = pd_amt (a_tokenCount, a_tokenOp, a_tokenValue, a_inputCount, a_inputCoin, a_inputA, a_inputB, a_outputCount, a_outputAmount, a_outputScript, a_parentOf, a_heightOf, a_rewardScript, a_blockSize, a_blockTransaction, a_feeOf, a_rewardAmount) := by
  funext c
  unfold pd_amt
  by_cases h : c < 120
  · rw [if_pos h]
  · rw [if_neg h]
end
