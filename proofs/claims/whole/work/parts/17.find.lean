/-! Y: the work of a chain, and the search for the tip -/
def pd_va (D : pd_D) (b : Nat) : Prop := pd_valid D (pd_he D b).toNatClampNeg b
def cn_wrk (D : pd_D) (wk cw : pd_F) (blocks : Nat) : Prop := wk 0 = cw 0 ∧ (∀ b, b < blocks → ∃ c, c ≤ 9 * b + 1 ∧ cw b = nI c) ∧ (∀ b, 0 < b → b < blocks → cw b = cw (pd_pa D b).toNatClampNeg + wk b)
section
variable {g_made g_blocks g_arrivals g_tip g_pooled g_chainLength : Int32} {b_op b_arg b_length b_ins b_inCoin b_inA b_inB b_outs b_amount b_lock b_parent b_work b_rewardLock b_height b_many b_holds b_delivered b_arrived b_pool b_chain b_from b_worth b_within b_spent b_stack b_again b_chosen gfe grw : Nat → Int32}
theorem ym_workOf {made blocks : Nat} (w : pd_wf (b_length, b_op, b_arg, b_ins, b_inCoin, b_inA, b_inB, b_outs, b_amount, b_lock, b_parent, b_height, b_rewardLock, b_many, b_holds, gfe, grw) made blocks) (cw : Nat → Int32) (hw : cn_wrk (b_length, b_op, b_arg, b_ins, b_inCoin, b_inA, b_inB, b_outs, b_amount, b_lock, b_parent, b_height, b_rewardLock, b_many, b_holds, gfe, grw) b_work cw blocks) (hp0 : b_parent 0 = -1) {post : Int32 → Prop} : ∀ b, b < blocks → post (cw b) → wpY_workOf post (g_made, g_blocks, g_arrivals, g_tip, g_pooled, g_chainLength, b_op, b_arg, b_length, b_ins, b_inCoin, b_inA, b_inB, b_outs, b_amount, b_lock, b_parent, b_work, b_rewardLock, b_height, b_many, b_holds, b_delivered, b_arrived, b_pool, b_chain, b_from, b_worth, b_within, b_spent, b_stack, b_again, b_chosen) (nI b) := by
  have hbk := w.2.1
  have key : ∀ (n b fuel : Nat) (acc : Int32), b < blocks → b_height b = nI n → n < 32 → n + 1 < fuel → post (acc + cw b) → wY_workOf_4 post g_made g_blocks g_arrivals g_tip g_pooled g_chainLength b_op b_arg b_length b_ins b_inCoin b_inA b_inB b_outs b_amount b_lock b_parent b_work b_rewardLock b_height b_many b_holds b_delivered b_arrived b_pool b_chain b_from b_worth b_within b_spent b_stack b_again b_chosen fuel acc (nI b) := by
    intro n
    induction n with
    | zero =>
      intro b fuel acc hb he hn hf hpost
      obtain ⟨fuel, rfl⟩ : ∃ q, fuel = q + 2 := ⟨fuel - 2, by omega⟩
      obtain rfl := pd_par0 w hb he
      rw [← hw.1] at hpost
      refine br_f (nI_pos (by omega)) ⟨pk_in 0 33 (by omega), nm_e ⟨pk_in 0 33 (by omega), nm_r (e' := -1) ?_ (br_t (by decide) ?_)⟩⟩
      · rw [pk_cl 0]; exact hp0
      · rw [pk_cl 0]; exact hpost
    | succ n ih =>
      intro b fuel acc hb he hn hf hpost
      obtain ⟨fuel, rfl⟩ : ∃ q, fuel = q + 1 := ⟨fuel - 1, by omega⟩
      obtain ⟨p, q1, q2, q3, q4⟩ := pd_par w hb he (by omega)
      have q2' : b_parent b = nI p := q2
      have hcw := hw.2.2 b (by omega) hb
      rw [q3] at hcw
      refine br_f (nI_pos (by omega)) ⟨pk_in b 33 (by omega), nm_e ⟨pk_in b 33 (by omega), nm_r (e' := nI p) ?_ (ih p fuel _ (by omega) q4 (by omega) (by omega) ?_)⟩⟩
      · rw [pk_cl b]; exact q2'
      · rw [pk_cl b]
        rw [hcw] at hpost
        rw [show acc + b_work b + cw p = acc + (cw p + b_work b) by rw [Int32.add_assoc, Int32.add_comm (b_work b)]]
        exact hpost
  intro b hb hpost
  obtain ⟨n, _, hn, he⟩ := pd_he_of w hb
  exact ⟨n + 2, key n b (n + 2) 0 hb he hn (by omega) (by rw [Int32.zero_add]; exact hpost)⟩
theorem ym_find {made blocks T : Nat} (w : pd_wf (b_length, b_op, b_arg, b_ins, b_inCoin, b_inA, b_inB, b_outs, b_amount, b_lock, b_parent, b_height, b_rewardLock, b_many, b_holds, gfe, grw) made blocks) (tk : fx_tok b_length b_op b_arg) (fq : pd_feq (b_length, b_op, b_arg, b_ins, b_inCoin, b_inA, b_inB, b_outs, b_amount, b_lock, b_parent, b_height, b_rewardLock, b_many, b_holds, gfe, grw) made) (rq : pd_req (b_length, b_op, b_arg, b_ins, b_inCoin, b_inA, b_inB, b_outs, b_amount, b_lock, b_parent, b_height, b_rewardLock, b_many, b_holds, gfe, grw) blocks) (cw : Nat → Int32) (hw : cn_wrk (b_length, b_op, b_arg, b_ins, b_inCoin, b_inA, b_inB, b_outs, b_amount, b_lock, b_parent, b_height, b_rewardLock, b_many, b_holds, gfe, grw) b_work cw blocks) (hp0 : b_parent 0 = -1) (eb : g_blocks = nI blocks)
    (hT : T < blocks) (aT : 0 ≤ b_arrived T) (vT : pd_va (b_length, b_op, b_arg, b_ins, b_inCoin, b_inA, b_inB, b_outs, b_amount, b_lock, b_parent, b_height, b_rewardLock, b_many, b_holds, gfe, grw) T) (a0 : 0 ≤ b_arrived 0) (har : ∀ b, b < blocks → 0 ≤ b_arrived b → ∃ a, a < 64 ∧ b_arrived b = nI a)
    (best : ∀ b, b < blocks → b ≠ T → 0 ≤ b_arrived b → pd_va (b_length, b_op, b_arg, b_ins, b_inCoin, b_inA, b_inB, b_outs, b_amount, b_lock, b_parent, b_height, b_rewardLock, b_many, b_holds, gfe, grw) b → cw b < cw T ∨ (cw b = cw T ∧ b_arrived T < b_arrived b)) (S : pd_S) (hS : pd_out S) {post : SY → Prop}
    (H : ∀ (S' : pd_S) (wo ch st : Nat → Int32) (cl : Int32), pd_out S' → ((nI T = g_tip → post (g_made, g_blocks, g_arrivals, g_tip, g_pooled, cl, b_op, b_arg, b_length, b_ins, b_inCoin, b_inA, b_inB, b_outs, b_amount, b_lock, b_parent, b_work, b_rewardLock, b_height, b_many, b_holds, b_delivered, b_arrived, b_pool, ch, (S').1, wo, (S').2.2, (S').2.1, st, b_again, b_chosen)) ∧ (¬ nI T = g_tip → wpY_walk (fun _ u => match u with | (g_madeq, g_blocksq, g_arrivalsq, g_tipq, g_pooledq, g_chainLengthq, b_opq, b_argq, b_lengthq, b_insq, b_inCoinq, b_inAq, b_inBq, b_outsq, b_amountq, b_lockq, b_parentq, b_workq, b_rewardLockq, b_heightq, b_manyq, b_holdsq, b_deliveredq, b_arrivedq, b_poolq, b_chainq, b_fromq, b_worthq, b_withinq, b_spentq, b_stackq, b_againq, b_chosenq) => (∃ n97 : Nat, wY_findTip_97 post (nI T) g_madeq g_blocksq g_arrivalsq g_tipq g_pooledq g_chainLengthq n97 0 0 b_opq b_argq b_lengthq b_insq b_inCoinq b_inAq b_inBq b_outsq b_amountq b_lockq b_parentq b_workq b_rewardLockq b_heightq b_manyq b_holdsq b_deliveredq b_arrivedq b_poolq b_chainq b_fromq b_worthq b_withinq b_spentq b_stackq b_againq b_chosenq)) (g_made, g_blocks, g_arrivals, g_tip, g_pooled, cl, b_op, b_arg, b_length, b_ins, b_inCoin, b_inA, b_inB, b_outs, b_amount, b_lock, b_parent, b_work, b_rewardLock, b_height, b_many, b_holds, b_delivered, b_arrived, b_pool, ch, (S').1, wo, (S').2.2, (S').2.1, st, b_again, b_chosen) g_tip))) :
    wpY_findTip post (g_made, g_blocks, g_arrivals, g_tip, g_pooled, g_chainLength, b_op, b_arg, b_length, b_ins, b_inCoin, b_inA, b_inB, b_outs, b_amount, b_lock, b_parent, b_work, b_rewardLock, b_height, b_many, b_holds, b_delivered, b_arrived, b_pool, b_chain, S.1, b_worth, S.2.2, S.2.1, b_stack, b_again, b_chosen) := by
  have hbk := w.2.1
  subst eb
  have key : ∀ (d x fuel bst : Nat) (S' : pd_S) (wo ch st : Nat → Int32) (cl : Int32), x + d = blocks → d < fuel → pd_out S' → bst < blocks → 0 ≤ b_arrived bst → pd_va (b_length, b_op, b_arg, b_ins, b_inCoin, b_inA, b_inB, b_outs, b_amount, b_lock, b_parent, b_height, b_rewardLock, b_many, b_holds, gfe, grw) bst → (T < x → bst = T) → wY_findTip_4 post fuel (nI bst) (nI x) g_made (nI blocks) g_arrivals g_tip g_pooled cl b_op b_arg b_length b_ins b_inCoin b_inA b_inB b_outs b_amount b_lock b_parent b_work b_rewardLock b_height b_many b_holds b_delivered b_arrived b_pool ch ((S').1) wo ((S').2.2) ((S').2.1) st b_again b_chosen := by
    intro d
    induction d with
    | zero =>
      intro x fuel bst S' wo ch st cl hx hf ho hb ab vb hbT
      obtain ⟨fuel, rfl⟩ : ∃ q, fuel = q + 1 := ⟨fuel - 1, by omega⟩
      obtain rfl : bst = T := hbT (by omega)
      exact br_t (nI_le (by omega) (by omega)) (H S' wo ch st cl ho)
    | succ d ih =>
      intro x fuel bst S' wo ch st cl hx hf ho hb ab vb hbT
      obtain ⟨fuel, rfl⟩ : ∃ q, fuel = q + 1 := ⟨fuel - 1, by omega⟩
      obtain ⟨n, _, hn, he⟩ := pd_he_of w (b := x) (by omega)
      have he' : b_height x = nI n := he
      have hec : (pd_he (b_length, b_op, b_arg, b_ins, b_inCoin, b_inA, b_inB, b_outs, b_amount, b_lock, b_parent, b_height, b_rewardLock, b_many, b_holds, gfe, grw) x).toNatClampNeg = n := pd_cl he (by omega)
      refine pk_le blocks x (fun z => by omega) (fun z => ⟨pk_in x 32 (by omega), ?_⟩)
      rw [pk_cl x]
      refine br_c (fun z1 => nm_r (nI_1 x) (ih (x + 1) fuel bst S' wo ch st cl (by omega) (by omega) ho hb ab vb fun h => hbT ?_)) (fun z1 => ?_)
      · rcases Nat.lt_or_ge T x with h' | h'
        · exact h'
        · obtain rfl : T = x := by omega
          exact absurd aT (Int32.not_le.mpr z1)
      · have ax : 0 ≤ b_arrived x := Int32.not_lt.mp z1
        refine ym_walk w tk fq rq (by omega) he' hn S' ho (fun hv wo' st' ch' _ _ => ?_) (fun hv S2 wo' st' ch' ho2 => br_t rfl (nm_r (nI_1 x) (ih (x + 1) fuel bst S2 wo' ch' st' _ (by omega) (by omega) ho2 hb ab vb fun h => hbT ?_)))
        · have vx : pd_va (b_length, b_op, b_arg, b_ins, b_inCoin, b_inA, b_inB, b_outs, b_amount, b_lock, b_parent, b_height, b_rewardLock, b_many, b_holds, gfe, grw) x := by unfold pd_va; rw [hec]; exact hv
          have hout : pd_out (pd_lay (b_length, b_op, b_arg, b_ins, b_inCoin, b_inA, b_inB, b_outs, b_amount, b_lock, b_parent, b_height, b_rewardLock, b_many, b_holds, gfe, grw) n x) := pd_inv_out (pd_inv_lay w n x (by omega) he hn)
          refine br_f (by decide) (ym_workOf w cw hw hp0 x (by omega) (ym_workOf w cw hw hp0 bst hb ?_))
          obtain ⟨cx, hcx, ecx⟩ := hw.2.1 x (by omega)
          obtain ⟨cb, hcb, ecb⟩ := hw.2.1 bst hb
          obtain ⟨cT, hcT, ecT⟩ := hw.2.1 T hT
          obtain ⟨av, hav, eav⟩ := har x (by omega) ax
          obtain ⟨ab', hab, eab⟩ := har bst hb ab
          obtain ⟨aT', haT, eaT⟩ := har T hT aT
          have bestb := fun h : bst ≠ T => best bst hb h ab vb
          have bestx := fun h : x ≠ T => best x (by omega) h ax vx
          rw [ecb, ecT, eaT, eab, nI_ltI (by omega) (by omega), nI_eq (by omega) (by omega), nI_ltI (by omega) (by omega)] at bestb
          rw [ecx, ecT, eaT, eav, nI_ltI (by omega) (by omega), nI_eq (by omega) (by omega), nI_ltI (by omega) (by omega)] at bestx
          have keep : (T < x + 1 → bst = T) → wY_findTip_4 post fuel (nI bst) (nI (x + 1)) g_made (nI blocks) g_arrivals g_tip g_pooled (nI (n + 1)) b_op b_arg b_length b_ins b_inCoin b_inA b_inB b_outs b_amount b_lock b_parent b_work b_rewardLock b_height b_many b_holds b_delivered b_arrived b_pool ch' ((pd_lay (b_length, b_op, b_arg, b_ins, b_inCoin, b_inA, b_inB, b_outs, b_amount, b_lock, b_parent, b_height, b_rewardLock, b_many, b_holds, gfe, grw) n x).1) wo' ((pd_lay (b_length, b_op, b_arg, b_ins, b_inCoin, b_inA, b_inB, b_outs, b_amount, b_lock, b_parent, b_height, b_rewardLock, b_many, b_holds, gfe, grw) n x).2.2) ((pd_lay (b_length, b_op, b_arg, b_ins, b_inCoin, b_inA, b_inB, b_outs, b_amount, b_lock, b_parent, b_height, b_rewardLock, b_many, b_holds, gfe, grw) n x).2.1) st' b_again b_chosen := fun h => ih (x + 1) fuel bst _ wo' ch' st' _ (by omega) (by omega) hout hb ab vb h
          have take : (T < x + 1 → x = T) → wY_findTip_4 post fuel (nI x) (nI (x + 1)) g_made (nI blocks) g_arrivals g_tip g_pooled (nI (n + 1)) b_op b_arg b_length b_ins b_inCoin b_inA b_inB b_outs b_amount b_lock b_parent b_work b_rewardLock b_height b_many b_holds b_delivered b_arrived b_pool ch' ((pd_lay (b_length, b_op, b_arg, b_ins, b_inCoin, b_inA, b_inB, b_outs, b_amount, b_lock, b_parent, b_height, b_rewardLock, b_many, b_holds, gfe, grw) n x).1) wo' ((pd_lay (b_length, b_op, b_arg, b_ins, b_inCoin, b_inA, b_inB, b_outs, b_amount, b_lock, b_parent, b_height, b_rewardLock, b_many, b_holds, gfe, grw) n x).2.2) ((pd_lay (b_length, b_op, b_arg, b_ins, b_inCoin, b_inA, b_inB, b_outs, b_amount, b_lock, b_parent, b_height, b_rewardLock, b_many, b_holds, gfe, grw) n x).2.1) st' b_again b_chosen := fun h => ih (x + 1) fuel x _ wo' ch' st' _ (by omega) (by omega) hout (by omega) ax vx h
          have ed : (cw x - cw bst).toInt = (cx : Int) - cb := by rw [ecx, ecb]; exact pk_sub_toInt (by omega) (by omega)
          refine nm_e (br_c (fun z2 => nm_r (nI_1 x) (take fun h => ?_)) (fun z2 => br_c (fun z3 => ⟨pk_in x 32 (by omega), pk_in bst 32 (by omega), ?_⟩) (fun z3 => nm_r (nI_1 x) (keep fun h => ?_))))
          · rw [Int32.lt_iff_toInt_lt, ed, show (0 : Int32).toInt = 0 from by decide] at z2
            rcases Classical.em (x = T) with e | e
            · exact e
            · have hb' := hbT (by omega)
              subst hb'
              rw [ecT, nI_eq (by omega) (by omega)] at ecb
              have := bestx e
              omega
          · have z3' : (cw x - cw bst).toInt = 0 := by rw [z3]; decide
            rw [ed] at z3'
            rw [pk_cl (x := nI bst) bst, eav, eab]
            refine pk_le ab' av (fun z4 => nm_r (nI_1 x) (keep fun h => ?_)) (fun z4 => nm_r (nI_1 x) (take fun h => ?_))
            · rcases Classical.em (bst = T) with e | e
              · exact e
              · have hxT : x = T := by
                  rcases Nat.lt_or_ge T x with h' | h'
                  · exact (e (hbT h')).elim
                  · omega
                subst hxT
                rw [ecT, nI_eq (by omega) (by omega)] at ecx
                rw [eaT, nI_eq (by omega) (by omega)] at eav
                have := bestb e
                omega
            · rcases Classical.em (x = T) with e | e
              · exact e
              · have hb' := hbT (by omega)
                subst hb'
                rw [ecT, nI_eq (by omega) (by omega)] at ecb
                rw [eaT, nI_eq (by omega) (by omega)] at eab
                have := bestx e
                omega
          · rcases Classical.em (bst = T) with e | e
            · exact e
            · have hxT : x = T := by
                rcases Nat.lt_or_ge T x with h' | h'
                · exact (e (hbT h')).elim
                · omega
              subst hxT
              rw [ecT, nI_eq (by omega) (by omega)] at ecx
              have hbb := bestb e
              rw [Int32.lt_iff_toInt_lt, ed, show (0 : Int32).toInt = 0 from by decide] at z2
              have hne : ¬ ((cx : Int) - cb = 0) := fun q => z3 (Int32.toInt_inj.mp (by rw [ed, q]; decide))
              omega
        · rcases Nat.lt_or_ge T x with h' | h'
          · exact h'
          · obtain rfl : T = x := by omega
            unfold pd_va at vT
            rw [hec] at vT
            exact (hv vT).elim
  obtain ⟨n0, hn0, _, he0⟩ := pd_he_of w (b := 0) (by omega)
  have v0 : pd_va (b_length, b_op, b_arg, b_ins, b_inCoin, b_inA, b_inB, b_outs, b_amount, b_lock, b_parent, b_height, b_rewardLock, b_many, b_holds, gfe, grw) 0 := by
    unfold pd_va
    rw [pd_cl he0 (by omega), show n0 = 0 by omega]
    exact trivial
  exact ⟨blocks + 1, key blocks 0 (blocks + 1) 0 S _ _ _ _ (by omega) (by omega) hS (by omega) a0 v0 (fun h => by omega)⟩
end
