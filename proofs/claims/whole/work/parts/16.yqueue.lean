/-! Y: the row of those that come back -/
section
variable {g_made g_blocks g_arrivals g_tip g_pooled g_chainLength : Int32} {b_op b_arg b_length b_ins b_inCoin b_inA b_inB b_outs b_amount b_lock b_parent b_work b_rewardLock b_height b_many b_holds b_delivered b_arrived b_pool b_chain b_from b_worth b_within b_spent b_stack b_again b_chosen gfe grw : Nat → Int32}
theorem ym_queue {made blocks tp n np : Nat} {x1 : Int32} (w : pd_wf (b_length, b_op, b_arg, b_ins, b_inCoin, b_inA, b_inB, b_outs, b_amount, b_lock, b_parent, b_height, b_rewardLock, b_many, b_holds, gfe, grw) made blocks) (htp : tp < blocks) (eh : b_height tp = nI n) (hn : n < 32) (hnp : np ≤ 12) (hl : ∀ h, h ≤ n → b_chain h = nI (pd_anc (b_length, b_op, b_arg, b_ins, b_inCoin, b_inA, b_inB, b_outs, b_amount, b_lock, b_parent, b_height, b_rewardLock, b_many, b_holds, gfe, grw) tp (n - h))) (h40 : (qu_c (b_length, b_op, b_arg, b_ins, b_inCoin, b_inA, b_inB, b_outs, b_amount, b_lock, b_parent, b_height, b_rewardLock, b_many, b_holds, gfe, grw) tp n (n + 1)).length ≤ 40) {post : SY → Prop}
    (H : ∀ q, qu_h q (qu_p (qu_c (b_length, b_op, b_arg, b_ins, b_inCoin, b_inA, b_inB, b_outs, b_amount, b_lock, b_parent, b_height, b_rewardLock, b_many, b_holds, gfe, grw) tp n (n + 1)) b_pool np) → wpY_walk (fun _ u => match u with | (g_madeq, g_blocksq, g_arrivalsq, g_tipq, g_pooledq, g_chainLengthq, b_opq, b_argq, b_lengthq, b_insq, b_inCoinq, b_inAq, b_inBq, b_outsq, b_amountq, b_lockq, b_parentq, b_workq, b_rewardLockq, b_heightq, b_manyq, b_holdsq, b_deliveredq, b_arrivedq, b_poolq, b_chainq, b_fromq, b_worthq, b_withinq, b_spentq, b_stackq, b_againq, b_chosenq) => (∃ n220 : Nat, wY_findTip_220 post (nI ((qu_c (b_length, b_op, b_arg, b_ins, b_inCoin, b_inA, b_inB, b_outs, b_amount, b_lock, b_parent, b_height, b_rewardLock, b_many, b_holds, gfe, grw) tp n (n + 1)).length + np)) n220 0 g_madeq g_blocksq g_arrivalsq g_tipq g_pooledq g_chainLengthq b_opq b_argq b_lengthq b_insq b_inCoinq b_inAq b_inBq b_outsq b_amountq b_lockq b_parentq b_workq b_rewardLockq b_heightq b_manyq b_holdsq b_deliveredq b_arrivedq b_poolq b_chainq b_fromq b_worthq b_withinq b_spentq b_stackq b_againq b_chosenq)) (g_made, g_blocks, g_arrivals, x1, 0, nI (n + 1), b_op, b_arg, b_length, b_ins, b_inCoin, b_inA, b_inB, b_outs, b_amount, b_lock, b_parent, b_work, b_rewardLock, b_height, b_many, b_holds, b_delivered, b_arrived, b_pool, b_chain, b_from, b_worth, b_within, b_spent, b_stack, q, b_chosen) x1) :
    ∃ fuel, wY_findTip_97 post x1 g_made g_blocks g_arrivals g_tip (nI np) (nI (n + 1)) fuel 0 0 b_op b_arg b_length b_ins b_inCoin b_inA b_inB b_outs b_amount b_lock b_parent b_work b_rewardLock b_height b_many b_holds b_delivered b_arrived b_pool b_chain b_from b_worth b_within b_spent b_stack b_again b_chosen := by
  have hbk := w.2.1
  have L170 : ∀ (d k fuel : Nat) (q : Nat → Int32), k + d = np → d < fuel → qu_h q (qu_p (qu_c (b_length, b_op, b_arg, b_ins, b_inCoin, b_inA, b_inB, b_outs, b_amount, b_lock, b_parent, b_height, b_rewardLock, b_many, b_holds, gfe, grw) tp n (n + 1)) b_pool k) → wY_findTip_170 post x1 g_made g_blocks g_arrivals g_tip (nI np) (nI (n + 1)) fuel (nI ((qu_c (b_length, b_op, b_arg, b_ins, b_inCoin, b_inA, b_inB, b_outs, b_amount, b_lock, b_parent, b_height, b_rewardLock, b_many, b_holds, gfe, grw) tp n (n + 1)).length + k)) (nI k) b_op b_arg b_length b_ins b_inCoin b_inA b_inB b_outs b_amount b_lock b_parent b_work b_rewardLock b_height b_many b_holds b_delivered b_arrived b_pool b_chain b_from b_worth b_within b_spent b_stack q b_chosen := by
    intro d
    induction d with
    | zero =>
      intro k fuel q hk hf hq
      obtain ⟨fuel, rfl⟩ : ∃ q, fuel = q + 1 := ⟨fuel - 1, by omega⟩
      obtain rfl : k = np := by omega
      exact br_t (nI_le (Nat.le_refl _) (by omega)) (H q hq)
    | succ d ih =>
      intro k fuel q hk hf hq
      obtain ⟨fuel, rfl⟩ : ∃ q, fuel = q + 1 := ⟨fuel - 1, by omega⟩
      have hq' := qu_s (b_pool k) hq
      rw [qu_p_len] at hq'
      refine pk_le np k (fun z => by omega) (fun z => ⟨pk_in k 12 (by omega), pk_in ((qu_c (b_length, b_op, b_arg, b_ins, b_inCoin, b_inA, b_inB, b_outs, b_amount, b_lock, b_parent, b_height, b_rewardLock, b_many, b_holds, gfe, grw) tp n (n + 1)).length + k) 200 (by omega), nm_r (by rw [pk_cl (x := nI ((qu_c (b_length, b_op, b_arg, b_ins, b_inCoin, b_inA, b_inB, b_outs, b_amount, b_lock, b_parent, b_height, b_rewardLock, b_many, b_holds, gfe, grw) tp n (n + 1)).length + k)) ((qu_c (b_length, b_op, b_arg, b_ins, b_inCoin, b_inA, b_inB, b_outs, b_amount, b_lock, b_parent, b_height, b_rewardLock, b_many, b_holds, gfe, grw) tp n (n + 1)).length + k), pk_cl k]) (nm_r (nI_1 _) (nm_r (nI_1 k) (ih (k + 1) fuel _ (by omega) (by omega) hq')))⟩)
  have L115 : ∀ (J : Int32 → Int32 → (Nat → Int32) → (Nat → Int32) → (Nat → Int32) → (Nat → Int32) → (Nat → Int32) → (Nat → Int32) → (Nat → Int32) → (Nat → Int32) → (Nat → Int32) → (Nat → Int32) → (Nat → Int32) → (Nat → Int32) → (Nat → Int32) → (Nat → Int32) → (Nat → Int32) → (Nat → Int32) → (Nat → Int32) → (Nat → Int32) → (Nat → Int32) → (Nat → Int32) → (Nat → Int32) → (Nat → Int32) → (Nat → Int32) → (Nat → Int32) → (Nat → Int32) → (Nat → Int32) → (Nat → Int32) → Prop) (h x m : Nat), h < 32 → b_chain h = nI x → x < blocks → b_many x = nI m → m ≤ 4 → (qu_c (b_length, b_op, b_arg, b_ins, b_inCoin, b_inA, b_inB, b_outs, b_amount, b_lock, b_parent, b_height, b_rewardLock, b_many, b_holds, gfe, grw) tp n h).length + m ≤ 40 → (∀ q, qu_h q (qu_c (b_length, b_op, b_arg, b_ins, b_inCoin, b_inA, b_inB, b_outs, b_amount, b_lock, b_parent, b_height, b_rewardLock, b_many, b_holds, gfe, grw) tp n h ++ qu_b (b_length, b_op, b_arg, b_ins, b_inCoin, b_inA, b_inB, b_outs, b_amount, b_lock, b_parent, b_height, b_rewardLock, b_many, b_holds, gfe, grw) x m) → J (nI ((qu_c (b_length, b_op, b_arg, b_ins, b_inCoin, b_inA, b_inB, b_outs, b_amount, b_lock, b_parent, b_height, b_rewardLock, b_many, b_holds, gfe, grw) tp n h).length + m)) (nI (h + 1)) b_op b_arg b_length b_ins b_inCoin b_inA b_inB b_outs b_amount b_lock b_parent b_work b_rewardLock b_height b_many b_holds b_delivered b_arrived b_pool b_chain b_from b_worth b_within b_spent b_stack q b_chosen) →
      ∀ (d i fuel : Nat) (q : Nat → Int32), i + d = m → d < fuel → qu_h q (qu_c (b_length, b_op, b_arg, b_ins, b_inCoin, b_inA, b_inB, b_outs, b_amount, b_lock, b_parent, b_height, b_rewardLock, b_many, b_holds, gfe, grw) tp n h ++ qu_b (b_length, b_op, b_arg, b_ins, b_inCoin, b_inA, b_inB, b_outs, b_amount, b_lock, b_parent, b_height, b_rewardLock, b_many, b_holds, gfe, grw) x i) → wY_findTip_115 post J x1 (nI h) g_made g_blocks g_arrivals g_tip (nI np) (nI (n + 1)) fuel (nI ((qu_c (b_length, b_op, b_arg, b_ins, b_inCoin, b_inA, b_inB, b_outs, b_amount, b_lock, b_parent, b_height, b_rewardLock, b_many, b_holds, gfe, grw) tp n h).length + i)) (nI (4 * x + i)) b_op b_arg b_length b_ins b_inCoin b_inA b_inB b_outs b_amount b_lock b_parent b_work b_rewardLock b_height b_many b_holds b_delivered b_arrived b_pool b_chain b_from b_worth b_within b_spent b_stack q b_chosen := by
    intro J h x m hh ech hx em hm4 hlen HJ d
    have ecc : b_chain (nI h).toNatClampNeg = nI x := by rw [pk_cl h]; exact ech
    have e4 : 4 * b_chain (nI h).toNatClampNeg + b_many (b_chain (nI h).toNatClampNeg).toNatClampNeg = nI (4 * x + m) := by rw [ecc, pk_cl x, em]; exact yb_4 x m
    have inn : vp_in (b_chain (nI h).toNatClampNeg) 33 := pk_in x 33 (by omega) ecc
    induction d with
    | zero =>
      intro i fuel q hi hf hq
      obtain ⟨fuel, rfl⟩ : ∃ q, fuel = q + 1 := ⟨fuel - 1, by omega⟩
      obtain rfl : i = m := by omega
      exact ⟨pk_in h 32 hh, pk_in h 32 hh, inn, br_t (by rw [e4]; exact nI_le (Nat.le_refl _) (by omega)) (nm_r (nI_1 h) (HJ q hq))⟩
    | succ d ih =>
      intro i fuel q hi hf hq
      obtain ⟨fuel, rfl⟩ : ∃ q, fuel = q + 1 := ⟨fuel - 1, by omega⟩
      have hq' := qu_s (b_holds (4 * x + i)) hq
      rw [List.length_append, qu_b_len, List.append_assoc] at hq'
      refine ⟨pk_in h 32 hh, pk_in h 32 hh, inn, pk_le (4 * x + m) (4 * x + i) (fun z => by omega) (fun z => ⟨pk_in (4 * x + i) 132 (by omega), pk_in ((qu_c (b_length, b_op, b_arg, b_ins, b_inCoin, b_inA, b_inB, b_outs, b_amount, b_lock, b_parent, b_height, b_rewardLock, b_many, b_holds, gfe, grw) tp n h).length + i) 200 (by omega), nm_r (by rw [pk_cl (x := nI ((qu_c (b_length, b_op, b_arg, b_ins, b_inCoin, b_inA, b_inB, b_outs, b_amount, b_lock, b_parent, b_height, b_rewardLock, b_many, b_holds, gfe, grw) tp n h).length + i)) ((qu_c (b_length, b_op, b_arg, b_ins, b_inCoin, b_inA, b_inB, b_outs, b_amount, b_lock, b_parent, b_height, b_rewardLock, b_many, b_holds, gfe, grw) tp n h).length + i), pk_cl (x := nI (4 * x + i)) (4 * x + i)]) (nm_r (nI_1 _) (nm_r (nI_1 (4 * x + i)) (ih (i + 1) fuel _ (by omega) (by omega) hq')))⟩) e4⟩
  have L97 : ∀ (d h fuel : Nat) (q : Nat → Int32), h + d = n + 1 → d < fuel → qu_h q (qu_c (b_length, b_op, b_arg, b_ins, b_inCoin, b_inA, b_inB, b_outs, b_amount, b_lock, b_parent, b_height, b_rewardLock, b_many, b_holds, gfe, grw) tp n h) → wY_findTip_97 post x1 g_made g_blocks g_arrivals g_tip (nI np) (nI (n + 1)) fuel (nI (qu_c (b_length, b_op, b_arg, b_ins, b_inCoin, b_inA, b_inB, b_outs, b_amount, b_lock, b_parent, b_height, b_rewardLock, b_many, b_holds, gfe, grw) tp n h).length) (nI h) b_op b_arg b_length b_ins b_inCoin b_inA b_inB b_outs b_amount b_lock b_parent b_work b_rewardLock b_height b_many b_holds b_delivered b_arrived b_pool b_chain b_from b_worth b_within b_spent b_stack q b_chosen := by
    intro d
    induction d with
    | zero =>
      intro h fuel q hd hf hq
      obtain ⟨fuel, rfl⟩ : ∃ q, fuel = q + 1 := ⟨fuel - 1, by omega⟩
      obtain rfl : h = n + 1 := by omega
      exact br_t (nI_le (Nat.le_refl _) (by omega)) ⟨np + 1, L170 np 0 (np + 1) q (by omega) (by omega) hq⟩
    | succ d ih =>
      intro h fuel q hd hf hq
      obtain ⟨fuel, rfl⟩ : ∃ q, fuel = q + 1 := ⟨fuel - 1, by omega⟩
      obtain ⟨q1, q2⟩ := pd_anc_of w htp eh hn (n - h) (by omega)
      obtain ⟨_, _, ⟨m, hm, em, _⟩, _⟩ := w.2.2.2.2.2 _ q1
      have emc : (pd_bs (b_length, b_op, b_arg, b_ins, b_inCoin, b_inA, b_inB, b_outs, b_amount, b_lock, b_parent, b_height, b_rewardLock, b_many, b_holds, gfe, grw) (pd_anc (b_length, b_op, b_arg, b_ins, b_inCoin, b_inA, b_inB, b_outs, b_amount, b_lock, b_parent, b_height, b_rewardLock, b_many, b_holds, gfe, grw) tp (n - h))).toNatClampNeg = m := pd_cl em (by omega)
      have hnx := ih (h + 1) fuel
      rw [qu_c, emc, List.length_append, qu_b_len] at hnx
      have hmono := qu_c_mono (b_length, b_op, b_arg, b_ins, b_inCoin, b_inA, b_inB, b_outs, b_amount, b_lock, b_parent, b_height, b_rewardLock, b_many, b_holds, gfe, grw) tp n (n + 1 - (h + 1)) (h + 1)
      rw [show h + 1 + (n + 1 - (h + 1)) = n + 1 by omega] at hmono
      have hlen : (qu_c (b_length, b_op, b_arg, b_ins, b_inCoin, b_inA, b_inB, b_outs, b_amount, b_lock, b_parent, b_height, b_rewardLock, b_many, b_holds, gfe, grw) tp n h).length + m ≤ 40 := by
        have e : (qu_c (b_length, b_op, b_arg, b_ins, b_inCoin, b_inA, b_inB, b_outs, b_amount, b_lock, b_parent, b_height, b_rewardLock, b_many, b_holds, gfe, grw) tp n (h + 1)).length = (qu_c (b_length, b_op, b_arg, b_ins, b_inCoin, b_inA, b_inB, b_outs, b_amount, b_lock, b_parent, b_height, b_rewardLock, b_many, b_holds, gfe, grw) tp n h).length + m := by rw [qu_c, emc, List.length_append, qu_b_len]
        omega
      have hch := hl h (by omega)
      refine pk_le (n + 1) h (fun z => by omega) (fun z => ⟨pk_in h 32 (by omega), nm_r (e' := nI (4 * pd_anc (b_length, b_op, b_arg, b_ins, b_inCoin, b_inA, b_inB, b_outs, b_amount, b_lock, b_parent, b_height, b_rewardLock, b_many, b_holds, gfe, grw) tp (n - h) + 0)) ?_ ⟨m + 1, L115 _ h _ m (by omega) hch q1 em hm hlen (fun q' hq' => hnx q' (by omega) (by omega) hq') m 0 (m + 1) q (by omega) (by omega) ?_⟩⟩)
      · rw [pk_cl h, hch]; exact yb_40 _
      · rw [qu_b, List.append_nil]; exact hq
  exact ⟨n + 2, L97 (n + 1) 0 (n + 2) _ (by omega) (by omega) (qu_0 _)⟩
end
/-! agreement of the rows -/
theorem qu_b_ag {D E : pd_D} {b : Nat} (a : pd_agB D E b) : ∀ n, n ≤ (pd_bs D b).toNatClampNeg → qu_b E b n = qu_b D b n := by
  intro n
  induction n with
  | zero => intro _; rfl
  | succ n ih => intro hn; rw [qu_b, qu_b, ih (by omega), a.2.2.2.2.2 n (by omega)]
theorem qu_c_ag {D E : pd_D} {made blocks b n : Nat} (w : pd_wf D made blocks) (a : pd_ag D E made blocks) (hb : b < blocks) (he : pd_he D b = nI n) (hn : n < 32) : ∀ h, h ≤ n + 1 → qu_c E b n h = qu_c D b n h := by
  intro h
  induction h with
  | zero => intro _; rfl
  | succ h ih =>
    intro hh
    obtain ⟨e, q1, q2⟩ := pd_ag_anc w a hb he hn (n - h) (by omega)
    rw [qu_c, qu_c, ih (by omega), e, (a.2.1 _ q1).2.2.1, qu_b_ag (a.2.1 _ q1) _ (Nat.le_refl _)]
/-! the row's entries are transactions -/
theorem qu_c_tx {D : pd_D} {made blocks b n : Nat} (w : pd_wf D made blocks) (hb : b < blocks) (he : pd_he D b = nI n) (hn : n < 32) : ∀ h, h ≤ n + 1 → ∀ x, x ∈ qu_c D b n h → ∃ t, t < made ∧ x = nI t := by
  have hbq : ∀ b', b' < blocks → ∀ m, m ≤ (pd_bs D b').toNatClampNeg → ∀ x, x ∈ qu_b D b' m → ∃ t, t < made ∧ x = nI t := by
    intro b' hb' m
    induction m with
    | zero => intro _ x hx; simp [qu_b] at hx
    | succ m ih =>
      intro hm x hx
      rw [qu_b, List.mem_append, List.mem_singleton] at hx
      rcases hx with hx | hx
      · exact ih (by omega) x hx
      · obtain ⟨t, h1, h2, _⟩ := pd_bt_of w hb' (i := m) (by omega)
        exact ⟨t, h1, hx.trans h2⟩
  intro h
  induction h with
  | zero => intro _ x hx; simp [qu_c] at hx
  | succ h ih =>
    intro hh x hx
    rw [qu_c, List.mem_append] at hx
    rcases hx with hx | hx
    · exact ih (by omega) x hx
    · exact hbq _ (pd_anc_of w hb he hn (n - h) (by omega)).1 _ (Nat.le_refl _) x hx
/-! wf, fees and rewards under agreement -/
theorem pd_ag_coin {D E : pd_D} {made blocks t c : Nat} (a : pd_ag D E made blocks) (ht : t ≤ made) : pd_coin E t blocks c ↔ pd_coin D t blocks c := by
  unfold pd_coin
  refine or_congr (and_congr_right fun _ => and_congr_right fun h2 => ?_) Iff.rfl
  rw [(a.1 _ (Nat.lt_of_lt_of_le h2 ht)).2.1]
theorem pd_wf_ag {D E : pd_D} {made blocks : Nat} (w : pd_wf D made blocks) (a : pd_ag D E made blocks) : pd_wf E made blocks := by
  obtain ⟨w1, w2, w3, w4, wT, wB⟩ := w
  refine ⟨w1, w2, w3, by rw [(a.2.1 0 (by omega)).2.2.1]; exact w4, fun t ht => ?_, fun b hb => ?_⟩
  · obtain ⟨n, m, n1, hn, m1, hm3, en, em, hc, hd, ho⟩ := wT t ht
    obtain ⟨e1, e2, _, e4, e5⟩ := a.1 t ht
    rw [pd_cl en (by omega)] at e4
    rw [pd_cl em (by omega)] at e5
    refine ⟨n, m, n1, hn, m1, hm3, e1.trans en, e2.trans em, fun i hi => ?_, fun i j hi hj q => ?_, fun o hq => ?_⟩
    · obtain ⟨c, c1, c2, c3⟩ := hc i hi
      exact ⟨c, c1, (e4 i hi).1.trans c2, (pd_ag_coin a (Nat.le_of_lt ht)).mpr c3⟩
    · rw [(e4 i hi).1, (e4 j hj).1] at q
      exact hd i j hi hj q
    · obtain ⟨s, s1, s2⟩ := ho o hq
      exact ⟨s, s1, (e5 o hq).2.trans s2⟩
  · obtain ⟨⟨h, h1, h2⟩, ⟨s, s1, s2⟩, ⟨n, n1, n2, n3⟩, hp⟩ := wB b hb
    obtain ⟨e1, e2, e3, _, e5, e6⟩ := a.2.1 b hb
    rw [pd_cl n2 (by omega)] at e6
    refine ⟨⟨h, h1, e1.trans h2⟩, ⟨s, s1, e2.trans s2⟩, ⟨n, n1, e3.trans n2, fun i hi => ?_⟩, fun hb0 => ?_⟩
    · obtain ⟨t, t1, t2⟩ := n3 i hi
      exact ⟨t, t1, (e6 i hi).trans t2⟩
    · obtain ⟨p, p1, p2, p3⟩ := hp hb0
      exact ⟨p, p1, (e5 hb0).trans p2, by rw [e1, (a.2.1 p (by omega)).1]; exact p3⟩
theorem pd_ag_amt {D E : pd_D} {made blocks c : Nat} (a : pd_ag D E made blocks) (h : pd_coin D made blocks c) : pd_amt E c = pd_amt D c := by
  unfold pd_amt
  rcases h with ⟨h1, h2, h3⟩ | ⟨h1, h2⟩
  · rw [if_pos h1, if_pos h1]
    have := ((a.1 _ h2).2.2.2.2 _ h3).1
    rw [show 3 * (c / 3) + c % 3 = c by omega] at this
    exact this
  · rw [if_neg (by omega), if_neg (by omega)]
    exact (a.2.1 _ h2).2.2.2.1
theorem pd_sin_eq {f f' co co' : pd_F} {base : Nat} : ∀ n, (∀ i, i < n → co' (base + i) = co (base + i) ∧ f' (co (base + i)).toNatClampNeg = f (co (base + i)).toNatClampNeg) → pd_sin f' co' base n = pd_sin f co base n := by
  intro n
  induction n with
  | zero => intro _; rfl
  | succ n ih =>
    intro h
    obtain ⟨h1, h2⟩ := h n (by omega)
    rw [pd_sin, pd_sin, h1, h2, ih fun i hi => h i (by omega)]
theorem pd_sout_eq {x : Int32} {oa oa' : pd_F} {base : Nat} : ∀ n, (∀ i, i < n → oa' (base + i) = oa (base + i)) → pd_sout x oa' base n = pd_sout x oa base n := by
  intro n
  induction n with
  | zero => intro _; rfl
  | succ n ih => intro h; rw [pd_sout, pd_sout, h n (by omega), ih fun i hi => h i (by omega)]
theorem pd_srw_eq {x : Int32} {fe fe' bt bt' : pd_F} {base : Nat} : ∀ n, (∀ i, i < n → bt' (base + i) = bt (base + i) ∧ fe' (bt (base + i)).toNatClampNeg = fe (bt (base + i)).toNatClampNeg) → pd_srw x fe' bt' base n = pd_srw x fe bt base n := by
  intro n
  induction n with
  | zero => intro _; rfl
  | succ n ih =>
    intro h
    obtain ⟨h1, h2⟩ := h n (by omega)
    rw [pd_srw, pd_srw, h1, h2, ih fun i hi => h i (by omega)]
theorem pd_feq_ag {D E : pd_D} {made blocks : Nat} (w : pd_wf D made blocks) (a : pd_ag D E made blocks) (fq : pd_feq D made) : pd_feq E made := by
  intro t ht
  obtain ⟨e1, e2, e3, e4, e5⟩ := a.1 t ht
  rw [e1, e2, e3, fq t ht, pd_sout_eq _ fun o ho => (e5 o ho).1]
  have hs : pd_sin (pd_amt E) (pd_co E) (3 * t) (pd_ic D t).toNatClampNeg = pd_sin (pd_amt D) (pd_co D) (3 * t) (pd_ic D t).toNatClampNeg := pd_sin_eq _ fun i hi => by
    obtain ⟨c, _, _, ec, hc⟩ := pd_wf_co w ht hi
    rw [ec]
    exact ⟨(e4 i hi).1, pd_ag_amt a (pd_coin_mono (Nat.le_of_lt ht) hc)⟩
  rw [hs]
theorem pd_req_ag {D E : pd_D} {made blocks : Nat} (w : pd_wf D made blocks) (a : pd_ag D E made blocks) (rq : pd_req D blocks) : pd_req E blocks := by
  intro b hb
  obtain ⟨e1, e2, e3, e4, e5, e6⟩ := a.2.1 b hb
  rw [e4, e1, e3, rq b hb]
  refine (pd_srw_eq _ fun i hi => ?_).symm
  obtain ⟨t, ht, _, et⟩ := pd_bt_of w hb hi
  rw [et]
  exact ⟨e6 i hi, (a.1 t ht).2.2.1⟩
