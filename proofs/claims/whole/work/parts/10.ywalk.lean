/-! Y: walk -/
theorem pd_okX_ok {D : pd_D} {S : pd_S} {t : Nat} {h : Int32} : pd_okTx D S t h ↔ pd_okX D S t h ∧ 0 ≤ pd_fe D t := by
  unfold pd_okTx pd_okX
  exact ⟨fun q => ⟨⟨q.1, q.2.1⟩, q.2.2⟩, fun q => ⟨q.1.1, q.1.2, q.2⟩⟩
theorem pd_fall {D : pd_D} {b : Nat} {h : Int32} {S : pd_S} {i n : Nat} (hi : i < n) (hno : ¬ pd_okTx D (pd_txs D b h i S) (pd_bt D (4 * b + i)).toNatClampNeg h) : ¬ pd_okTxs D b h n S := by
  induction n with
  | zero => omega
  | succ m ih =>
    intro q
    by_cases e : i = m
    · subst e; exact hno q.2
    · exact ih (by omega) q.1
theorem pd_valid_anc {D : pd_D} {b : Nat} : ∀ n, pd_valid D n b → ∀ k, k ≤ n → pd_valid D (n - k) (pd_anc D b k) := by
  intro n hv k
  induction k with
  | zero => intro _; exact hv
  | succ k ih =>
    intro hk
    have := ih (by omega)
    rw [show n - k = (n - (k + 1)) + 1 by omega, pd_valid] at this
    exact this.1
/-- valid so far: the first h blocks of b's chain -/
def pd_VT (D : pd_D) (b n : Nat) : Nat → Prop
  | 0 => True
  | k + 1 => pd_valid D k (pd_anc D b (n - k))
theorem pd_VT_s {D : pd_D} {made blocks b n h : Nat} (w : pd_wf D made blocks) (hb : b < blocks) (he : pd_he D b = nI n) (hn : n < 32) (hh : h ≤ n) : pd_VT D b n (h + 1) ↔ pd_VT D b n h ∧ pd_okTxs D (pd_anc D b (n - h)) (pd_he D (pd_anc D b (n - h))) (pd_bs D (pd_anc D b (n - h))).toNatClampNeg (pd_T D b n h) := by
  cases h with
  | zero =>
    obtain ⟨q1, q2⟩ := pd_anc_of w hb he hn n (Nat.le_refl _)
    rw [Nat.sub_self] at q2
    have z := pd_par0 w q1 q2
    rw [Nat.sub_zero, z, w.2.2.2.1]
    exact ⟨fun _ => ⟨trivial, trivial⟩, fun _ => trivial⟩
  | succ k =>
    show pd_valid D (k + 1) _ ↔ _
    rw [pd_valid]
    have e : n - k = (n - (k + 1)) + 1 := by omega
    rw [pd_VT, pd_T, e, pd_anc]
theorem pd_VT_n {D : pd_D} {b n : Nat} : pd_VT D b n (n + 1) ↔ pd_valid D n b := by rw [pd_VT, Nat.sub_self, pd_anc]
theorem pd_VT_no {D : pd_D} {b n h : Nat} (hh : h ≤ n + 1) (hno : ¬ pd_VT D b n h) : ¬ pd_valid D n b := by
  intro q
  cases h with
  | zero => exact hno trivial
  | succ k =>
    have := pd_valid_anc n q (n - k) (by omega)
    rw [show n - (n - k) = k by omega] at this
    exact hno this
theorem pd_inv_T {D : pd_D} {made blocks b n : Nat} (w : pd_wf D made blocks) (hb : b < blocks) (he : pd_he D b = nI n) (hn : n < 32) (h : Nat) (hh : h ≤ n + 1) : pd_inv D made blocks (pd_T D b n h) ∧ pd_rng (pd_T D b n h).1 := by
  cases h with
  | zero => exact ⟨pd_inv_0 D made blocks, pd_rng_0⟩
  | succ k =>
    obtain ⟨q1, q2⟩ := pd_anc_of w hb he hn (n - k) (by omega)
    rw [show n - (n - k) = k by omega] at q2
    exact ⟨pd_inv_lay w k _ q1 q2 (by omega), pd_rng_lay w k _ q1 q2 (by omega)⟩
section
variable {g_made g_blocks g_arrivals g_tip g_pooled g_chainLength : Int32} {b_op b_arg b_length b_ins b_inCoin b_inA b_inB b_outs b_amount b_lock b_parent b_work b_rewardLock b_height b_many b_holds b_delivered b_arrived b_pool b_chain b_from b_worth b_within b_spent b_stack b_again b_chosen gfe grw : Nat → Int32}
theorem ym_w123 {made blocks x h n : Nat} {x0 : Int32} (w : pd_wf (b_length, b_op, b_arg, b_ins, b_inCoin, b_inA, b_inB, b_outs, b_amount, b_lock, b_parent, b_height, b_rewardLock, b_many, b_holds, gfe, grw) made blocks) (tk : fx_tok b_length b_op b_arg) (fq : pd_feq (b_length, b_op, b_arg, b_ins, b_inCoin, b_inA, b_inB, b_outs, b_amount, b_lock, b_parent, b_height, b_rewardLock, b_many, b_holds, gfe, grw) made) (hx : x < blocks) (hh : h < 32) (ehx : b_height x = nI h) (en : b_many x = nI n) (hn : n ≤ 4) (ech : b_chain h = nI x) (erw : grw x = pd_srw x0 gfe b_holds (4 * x) n) (S : pd_S) (I : pd_inv (b_length, b_op, b_arg, b_ins, b_inCoin, b_inA, b_inB, b_outs, b_amount, b_lock, b_parent, b_height, b_rewardLock, b_many, b_holds, gfe, grw) made blocks S) (rg : pd_rng S.1) {post : Int32 → SY → Prop} {J : Int32 → Int32 → Int32 → Int32 → Int32 → Int32 → Int32 → (Nat → Int32) → (Nat → Int32) → (Nat → Int32) → (Nat → Int32) → (Nat → Int32) → (Nat → Int32) → (Nat → Int32) → (Nat → Int32) → (Nat → Int32) → (Nat → Int32) → (Nat → Int32) → (Nat → Int32) → (Nat → Int32) → (Nat → Int32) → (Nat → Int32) → (Nat → Int32) → (Nat → Int32) → (Nat → Int32) → (Nat → Int32) → (Nat → Int32) → (Nat → Int32) → (Nat → Int32) → (Nat → Int32) → (Nat → Int32) → (Nat → Int32) → (Nat → Int32) → (Nat → Int32) → Prop}
    (HJ : pd_okTxs (b_length, b_op, b_arg, b_ins, b_inCoin, b_inA, b_inB, b_outs, b_amount, b_lock, b_parent, b_height, b_rewardLock, b_many, b_holds, gfe, grw) x (nI h) n S → ∀ wo st, pd_wor (b_length, b_op, b_arg, b_ins, b_inCoin, b_inA, b_inB, b_outs, b_amount, b_lock, b_parent, b_height, b_rewardLock, b_many, b_holds, gfe, grw) (pd_blk (b_length, b_op, b_arg, b_ins, b_inCoin, b_inA, b_inB, b_outs, b_amount, b_lock, b_parent, b_height, b_rewardLock, b_many, b_holds, gfe, grw) x S).1 wo → J (nI (h + 1)) g_made g_blocks g_arrivals g_tip g_pooled g_chainLength b_op b_arg b_length b_ins b_inCoin b_inA b_inB b_outs b_amount b_lock b_parent b_work b_rewardLock b_height b_many b_holds b_delivered b_arrived b_pool b_chain ((pd_blk (b_length, b_op, b_arg, b_ins, b_inCoin, b_inA, b_inB, b_outs, b_amount, b_lock, b_parent, b_height, b_rewardLock, b_many, b_holds, gfe, grw) x S).1) wo ((pd_blk (b_length, b_op, b_arg, b_ins, b_inCoin, b_inA, b_inB, b_outs, b_amount, b_lock, b_parent, b_height, b_rewardLock, b_many, b_holds, gfe, grw) x S).2.2) ((pd_blk (b_length, b_op, b_arg, b_ins, b_inCoin, b_inA, b_inB, b_outs, b_amount, b_lock, b_parent, b_height, b_rewardLock, b_many, b_holds, gfe, grw) x S).2.1) st b_again b_chosen)
    (H0 : ¬ pd_okTxs (b_length, b_op, b_arg, b_ins, b_inCoin, b_inA, b_inB, b_outs, b_amount, b_lock, b_parent, b_height, b_rewardLock, b_many, b_holds, gfe, grw) x (nI h) n S → ∀ S' wo st, pd_out S' → post 0 (g_made, g_blocks, g_arrivals, g_tip, g_pooled, g_chainLength, b_op, b_arg, b_length, b_ins, b_inCoin, b_inA, b_inB, b_outs, b_amount, b_lock, b_parent, b_work, b_rewardLock, b_height, b_many, b_holds, b_delivered, b_arrived, b_pool, b_chain, (S').1, wo, (S').2.2, (S').2.1, st, b_again, b_chosen)) :
    ∀ (d i fuel : Nat) (wo st : Nat → Int32), i + d = n → d < fuel → pd_okTxs (b_length, b_op, b_arg, b_ins, b_inCoin, b_inA, b_inB, b_outs, b_amount, b_lock, b_parent, b_height, b_rewardLock, b_many, b_holds, gfe, grw) x (nI h) i S → pd_wor (b_length, b_op, b_arg, b_ins, b_inCoin, b_inA, b_inB, b_outs, b_amount, b_lock, b_parent, b_height, b_rewardLock, b_many, b_holds, gfe, grw) (pd_txs (b_length, b_op, b_arg, b_ins, b_inCoin, b_inA, b_inB, b_outs, b_amount, b_lock, b_parent, b_height, b_rewardLock, b_many, b_holds, gfe, grw) x (nI h) i S).1 wo → wY_walk_123 post J (nI h) fuel (pd_srw x0 gfe b_holds (4 * x) i) (nI (4 * x + i)) g_made g_blocks g_arrivals g_tip g_pooled g_chainLength b_op b_arg b_length b_ins b_inCoin b_inA b_inB b_outs b_amount b_lock b_parent b_work b_rewardLock b_height b_many b_holds b_delivered b_arrived b_pool b_chain ((pd_txs (b_length, b_op, b_arg, b_ins, b_inCoin, b_inA, b_inB, b_outs, b_amount, b_lock, b_parent, b_height, b_rewardLock, b_many, b_holds, gfe, grw) x (nI h) i S).1) wo ((pd_txs (b_length, b_op, b_arg, b_ins, b_inCoin, b_inA, b_inB, b_outs, b_amount, b_lock, b_parent, b_height, b_rewardLock, b_many, b_holds, gfe, grw) x (nI h) i S).2.2) ((pd_txs (b_length, b_op, b_arg, b_ins, b_inCoin, b_inA, b_inB, b_outs, b_amount, b_lock, b_parent, b_height, b_rewardLock, b_many, b_holds, gfe, grw) x (nI h) i S).2.1) st b_again b_chosen := by
  have hbk := w.2.1
  have hmd := w.2.2.1
  have ebs : (pd_bs (b_length, b_op, b_arg, b_ins, b_inCoin, b_inA, b_inB, b_outs, b_amount, b_lock, b_parent, b_height, b_rewardLock, b_many, b_holds, gfe, grw) x).toNatClampNeg = n := pd_cl en (by omega)
  have ecc : b_chain (nI h).toNatClampNeg = nI x := by rw [pk_cl h]; exact ech
  have ecx : (nI x).toNatClampNeg = x := pk_cl x
  have e4 : 4 * b_chain (nI h).toNatClampNeg + b_many (b_chain (nI h).toNatClampNeg).toNatClampNeg = nI (4 * x + n) := by rw [ecc, ecx, en]; exact yb_4 x n
  have e120 : (120 : Int32) + b_chain (nI h).toNatClampNeg = nI (120 + x) := by rw [ecc]; exact nI_add 120 x
  have inn : vp_in (b_chain (nI h).toNatClampNeg) 33 := pk_in x 33 (by omega) ecc
  have hpos : 0 ≤ nI h := nI_pos' (by omega)
  intro d
  induction d with
  | zero =>
    intro i fuel wo st hi hf hok hw
    obtain ⟨fuel, rfl⟩ : ∃ q, fuel = q + 1 := ⟨fuel - 1, by omega⟩
    obtain rfl : i = n := by omega
    have eb : pd_blk (b_length, b_op, b_arg, b_ins, b_inCoin, b_inA, b_inB, b_outs, b_amount, b_lock, b_parent, b_height, b_rewardLock, b_many, b_holds, gfe, grw) x S = (upd (pd_txs (b_length, b_op, b_arg, b_ins, b_inCoin, b_inA, b_inB, b_outs, b_amount, b_lock, b_parent, b_height, b_rewardLock, b_many, b_holds, gfe, grw) x (nI h) i S).1 (120 + x) (nI h), (pd_txs (b_length, b_op, b_arg, b_ins, b_inCoin, b_inA, b_inB, b_outs, b_amount, b_lock, b_parent, b_height, b_rewardLock, b_many, b_holds, gfe, grw) x (nI h) i S).2) := by
      unfold pd_blk
      rw [ebs, show pd_he (b_length, b_op, b_arg, b_ins, b_inCoin, b_inA, b_inB, b_outs, b_amount, b_lock, b_parent, b_height, b_rewardLock, b_many, b_holds, gfe, grw) x = nI h from ehx]
    have HJ' := HJ hok (upd wo (120 + x) (pd_srw x0 gfe b_holds (4 * x) i)) st (by
      intro c hc h0
      by_cases e : c = 120 + x
      · subst e
        rw [pk_us, ← erw]
        show _ = if 120 + x < 120 then _ else grw (120 + x - 120)
        rw [if_neg (by omega), show 120 + x - 120 = x by omega]
      · rw [pk_un e]
        rw [eb] at h0
        have h0' : 0 ≤ upd (pd_txs (b_length, b_op, b_arg, b_ins, b_inCoin, b_inA, b_inB, b_outs, b_amount, b_lock, b_parent, b_height, b_rewardLock, b_many, b_holds, gfe, grw) x (nI h) i S).1 (120 + x) (nI h) c := h0
        rw [pk_un e] at h0'
        exact hw c hc h0')
    rw [eb] at HJ'
    refine ⟨pk_in h 32 hh, pk_in h 32 hh, inn, br_t (by rw [e4]; exact nI_le (Nat.le_refl _) (by omega)) ⟨pk_in h 32 hh, pk_in (120 + x) 152 (by omega) e120, nm_r (by rw [pk_cl (120 + x) e120]) ⟨pk_in h 32 hh, pk_in (120 + x) 152 (by omega) e120, nm_r (by rw [pk_cl (120 + x) e120]) (nm_r (nI_1 h) HJ')⟩⟩⟩
  | succ d ih =>
    intro i fuel wo st hi hf hok hw
    obtain ⟨fuel, rfl⟩ : ∃ q, fuel = q + 1 := ⟨fuel - 1, by omega⟩
    obtain ⟨t, ht, et, etc⟩ := pd_bt_of w hx (i := i) (by rw [ebs]; omega)
    have et' : b_holds (nI (4 * x + i)).toNatClampNeg = nI t := by rw [pk_cl (4 * x + i)]; exact et
    have hI := pd_inv_txs w hx hpos I i (by rw [ebs]; omega)
    refine ⟨pk_in h 32 hh, pk_in h 32 hh, inn, pk_le (4 * x + n) (4 * x + i) (fun z => by omega) (fun z => ⟨pk_in (4 * x + i) 132 (by omega), ?_⟩) e4⟩
    rw [et']
    have hfall : ¬ pd_okTx (b_length, b_op, b_arg, b_ins, b_inCoin, b_inA, b_inB, b_outs, b_amount, b_lock, b_parent, b_height, b_rewardLock, b_many, b_holds, gfe, grw) (pd_txs (b_length, b_op, b_arg, b_ins, b_inCoin, b_inA, b_inB, b_outs, b_amount, b_lock, b_parent, b_height, b_rewardLock, b_many, b_holds, gfe, grw) x (nI h) i S) t (nI h) → ¬ pd_okTxs (b_length, b_op, b_arg, b_ins, b_inCoin, b_inA, b_inB, b_outs, b_amount, b_lock, b_parent, b_height, b_rewardLock, b_many, b_holds, gfe, grw) x (nI h) n S := fun hno => pd_fall (i := i) (by omega) (by rw [etc]; exact hno)
    refine ym_enter w tk fq ht hh _ (pd_inv_out hI) (pd_rng_txs hh rg i) hw (fun hyes wo' st' hw' => br_c (fun z0 => ?_) (fun z0 => ?_)) (fun hno S' st' ho => br_f (by decide) (H0 (hfall fun q => hno (pd_okX_ok.mp q).1) S' _ st' ho))
    · have hok' : pd_okTxs (b_length, b_op, b_arg, b_ins, b_inCoin, b_inA, b_inB, b_outs, b_amount, b_lock, b_parent, b_height, b_rewardLock, b_many, b_holds, gfe, grw) x (nI h) (i + 1) S := ⟨hok, by rw [etc]; exact pd_okX_ok.mpr ⟨hyes, z0⟩⟩
      have := ih (i + 1) fuel wo' st' (by omega) (by omega) hok' (by rw [pd_txs, etc]; exact hw')
      rw [pd_txs, etc] at this
      refine nm_r (e' := pd_srw x0 gfe b_holds (4 * x) (i + 1)) ?_ (nm_r (nI_1 (4 * x + i)) this)
      rw [pd_srw, show (b_holds (4 * x + i)).toNatClampNeg = t from etc]
    · exact H0 (hfall fun q => z0 (pd_okX_ok.mp q).2) _ _ _ (pd_inv_out (pd_inv_tx w ht hpos hI))
theorem ym_w97 {made blocks b n : Nat} (w : pd_wf (b_length, b_op, b_arg, b_ins, b_inCoin, b_inA, b_inB, b_outs, b_amount, b_lock, b_parent, b_height, b_rewardLock, b_many, b_holds, gfe, grw) made blocks) (tk : fx_tok b_length b_op b_arg) (fq : pd_feq (b_length, b_op, b_arg, b_ins, b_inCoin, b_inA, b_inB, b_outs, b_amount, b_lock, b_parent, b_height, b_rewardLock, b_many, b_holds, gfe, grw) made) (rq : pd_req (b_length, b_op, b_arg, b_ins, b_inCoin, b_inA, b_inB, b_outs, b_amount, b_lock, b_parent, b_height, b_rewardLock, b_many, b_holds, gfe, grw) blocks) (hb : b < blocks) (he : b_height b = nI n) (hn : n < 32) (hl : ∀ h, h ≤ n → b_chain h = nI (pd_anc (b_length, b_op, b_arg, b_ins, b_inCoin, b_inA, b_inB, b_outs, b_amount, b_lock, b_parent, b_height, b_rewardLock, b_many, b_holds, gfe, grw) b (n - h))) {post : Int32 → SY → Prop}
    (H1 : pd_valid (b_length, b_op, b_arg, b_ins, b_inCoin, b_inA, b_inB, b_outs, b_amount, b_lock, b_parent, b_height, b_rewardLock, b_many, b_holds, gfe, grw) n b → ∀ wo st, pd_wor (b_length, b_op, b_arg, b_ins, b_inCoin, b_inA, b_inB, b_outs, b_amount, b_lock, b_parent, b_height, b_rewardLock, b_many, b_holds, gfe, grw) (pd_lay (b_length, b_op, b_arg, b_ins, b_inCoin, b_inA, b_inB, b_outs, b_amount, b_lock, b_parent, b_height, b_rewardLock, b_many, b_holds, gfe, grw) n b).1 wo → post 1 (g_made, g_blocks, g_arrivals, g_tip, g_pooled, nI (n + 1), b_op, b_arg, b_length, b_ins, b_inCoin, b_inA, b_inB, b_outs, b_amount, b_lock, b_parent, b_work, b_rewardLock, b_height, b_many, b_holds, b_delivered, b_arrived, b_pool, b_chain, (pd_lay (b_length, b_op, b_arg, b_ins, b_inCoin, b_inA, b_inB, b_outs, b_amount, b_lock, b_parent, b_height, b_rewardLock, b_many, b_holds, gfe, grw) n b).1, wo, (pd_lay (b_length, b_op, b_arg, b_ins, b_inCoin, b_inA, b_inB, b_outs, b_amount, b_lock, b_parent, b_height, b_rewardLock, b_many, b_holds, gfe, grw) n b).2.2, (pd_lay (b_length, b_op, b_arg, b_ins, b_inCoin, b_inA, b_inB, b_outs, b_amount, b_lock, b_parent, b_height, b_rewardLock, b_many, b_holds, gfe, grw) n b).2.1, st, b_again, b_chosen))
    (H0 : ¬ pd_valid (b_length, b_op, b_arg, b_ins, b_inCoin, b_inA, b_inB, b_outs, b_amount, b_lock, b_parent, b_height, b_rewardLock, b_many, b_holds, gfe, grw) n b → ∀ S' wo st, pd_out S' → post 0 (g_made, g_blocks, g_arrivals, g_tip, g_pooled, nI (n + 1), b_op, b_arg, b_length, b_ins, b_inCoin, b_inA, b_inB, b_outs, b_amount, b_lock, b_parent, b_work, b_rewardLock, b_height, b_many, b_holds, b_delivered, b_arrived, b_pool, b_chain, (S').1, wo, (S').2.2, (S').2.1, st, b_again, b_chosen)) :
    ∀ (d h fuel : Nat) (wo st : Nat → Int32), h + d = n + 1 → d < fuel → pd_VT (b_length, b_op, b_arg, b_ins, b_inCoin, b_inA, b_inB, b_outs, b_amount, b_lock, b_parent, b_height, b_rewardLock, b_many, b_holds, gfe, grw) b n h → pd_wor (b_length, b_op, b_arg, b_ins, b_inCoin, b_inA, b_inB, b_outs, b_amount, b_lock, b_parent, b_height, b_rewardLock, b_many, b_holds, gfe, grw) (pd_T (b_length, b_op, b_arg, b_ins, b_inCoin, b_inA, b_inB, b_outs, b_amount, b_lock, b_parent, b_height, b_rewardLock, b_many, b_holds, gfe, grw) b n h).1 wo → wY_walk_97 post fuel (nI h) g_made g_blocks g_arrivals g_tip g_pooled (nI (n + 1)) b_op b_arg b_length b_ins b_inCoin b_inA b_inB b_outs b_amount b_lock b_parent b_work b_rewardLock b_height b_many b_holds b_delivered b_arrived b_pool b_chain ((pd_T (b_length, b_op, b_arg, b_ins, b_inCoin, b_inA, b_inB, b_outs, b_amount, b_lock, b_parent, b_height, b_rewardLock, b_many, b_holds, gfe, grw) b n h).1) wo ((pd_T (b_length, b_op, b_arg, b_ins, b_inCoin, b_inA, b_inB, b_outs, b_amount, b_lock, b_parent, b_height, b_rewardLock, b_many, b_holds, gfe, grw) b n h).2.2) ((pd_T (b_length, b_op, b_arg, b_ins, b_inCoin, b_inA, b_inB, b_outs, b_amount, b_lock, b_parent, b_height, b_rewardLock, b_many, b_holds, gfe, grw) b n h).2.1) st b_again b_chosen := by
  have hbk := w.2.1
  intro d
  induction d with
  | zero =>
    intro h fuel wo st hd hf hv hw
    obtain ⟨fuel, rfl⟩ : ∃ q, fuel = q + 1 := ⟨fuel - 1, by omega⟩
    obtain rfl : h = n + 1 := by omega
    rw [pd_T_n] at hw ⊢
    exact br_t (nI_le (Nat.le_refl _) (by omega)) (H1 (pd_VT_n.mp hv) wo st hw)
  | succ d ih =>
    intro h fuel wo st hd hf hv hw
    obtain ⟨fuel, rfl⟩ : ∃ q, fuel = q + 1 := ⟨fuel - 1, by omega⟩
    obtain ⟨q1, q2⟩ := pd_anc_of w hb he hn (n - h) (by omega)
    rw [show n - (n - h) = h by omega] at q2
    have hch := hl h (by omega)
    have hvs := pd_VT_s w hb he hn (h := h) (by omega)
    have hTs := pd_T_s (b_length, b_op, b_arg, b_ins, b_inCoin, b_inA, b_inB, b_outs, b_amount, b_lock, b_parent, b_height, b_rewardLock, b_many, b_holds, gfe, grw) b n h (by omega)
    obtain ⟨hI, hr⟩ := pd_inv_T w hb he hn h (by omega)
    generalize hxx : pd_anc (b_length, b_op, b_arg, b_ins, b_inCoin, b_inA, b_inB, b_outs, b_amount, b_lock, b_parent, b_height, b_rewardLock, b_many, b_holds, gfe, grw) b (n - h) = x at q1 q2 hch hvs hTs
    obtain ⟨_, _, ⟨m, hm, em, _⟩, _⟩ := w.2.2.2.2.2 _ q1
    have em' : b_many x = nI m := em
    have emc : (pd_bs (b_length, b_op, b_arg, b_ins, b_inCoin, b_inA, b_inB, b_outs, b_amount, b_lock, b_parent, b_height, b_rewardLock, b_many, b_holds, gfe, grw) x).toNatClampNeg = m := pd_cl em (by omega)
    have q2' : b_height x = nI h := q2
    have erw := rq x q1
    rw [emc, q2] at erw
    have erw' : grw x = pd_srw ((64 : Int32) >>> ((nI h / 4) &&& 31)) gfe b_holds (4 * x) m := erw
    rw [emc, q2] at hvs
    refine pk_le (n + 1) h (fun z => by omega) (fun z => ⟨by decide, nm_e ⟨pk_in h 32 (by omega), nm_r (e' := nI (4 * x + 0)) ?_ ⟨m + 1, ?_⟩⟩⟩)
    · rw [pk_cl h, hch]; exact yb_40 x
    · refine ym_w123 w tk fq q1 (by omega) q2' em' hm hch erw' _ hI hr (fun hok wo' st' hw' => ?_) (fun hno S' wo' st' ho => ?_) m 0 (m + 1) wo st (by omega) (by omega) trivial hw
      · rw [hTs] at hw' ⊢
        exact ih (h + 1) fuel wo' st' (by omega) (by omega) (hvs.mpr ⟨hv, hok⟩) hw'
      · exact H0 (pd_VT_no (h := h + 1) (by omega) fun q => hno (hvs.mp q).2) S' wo' st' ho
theorem ym_walk {made blocks b n : Nat} (w : pd_wf (b_length, b_op, b_arg, b_ins, b_inCoin, b_inA, b_inB, b_outs, b_amount, b_lock, b_parent, b_height, b_rewardLock, b_many, b_holds, gfe, grw) made blocks) (tk : fx_tok b_length b_op b_arg) (fq : pd_feq (b_length, b_op, b_arg, b_ins, b_inCoin, b_inA, b_inB, b_outs, b_amount, b_lock, b_parent, b_height, b_rewardLock, b_many, b_holds, gfe, grw) made) (rq : pd_req (b_length, b_op, b_arg, b_ins, b_inCoin, b_inA, b_inB, b_outs, b_amount, b_lock, b_parent, b_height, b_rewardLock, b_many, b_holds, gfe, grw) blocks) (hb : b < blocks) (he : b_height b = nI n) (hn : n < 32) (S : pd_S) (hS : pd_out S) {post : Int32 → SY → Prop}
    (H1 : pd_valid (b_length, b_op, b_arg, b_ins, b_inCoin, b_inA, b_inB, b_outs, b_amount, b_lock, b_parent, b_height, b_rewardLock, b_many, b_holds, gfe, grw) n b → ∀ wo st ch, pd_wor (b_length, b_op, b_arg, b_ins, b_inCoin, b_inA, b_inB, b_outs, b_amount, b_lock, b_parent, b_height, b_rewardLock, b_many, b_holds, gfe, grw) (pd_lay (b_length, b_op, b_arg, b_ins, b_inCoin, b_inA, b_inB, b_outs, b_amount, b_lock, b_parent, b_height, b_rewardLock, b_many, b_holds, gfe, grw) n b).1 wo → (∀ h, h ≤ n → ch h = nI (pd_anc (b_length, b_op, b_arg, b_ins, b_inCoin, b_inA, b_inB, b_outs, b_amount, b_lock, b_parent, b_height, b_rewardLock, b_many, b_holds, gfe, grw) b (n - h))) → post 1 (g_made, g_blocks, g_arrivals, g_tip, g_pooled, nI (n + 1), b_op, b_arg, b_length, b_ins, b_inCoin, b_inA, b_inB, b_outs, b_amount, b_lock, b_parent, b_work, b_rewardLock, b_height, b_many, b_holds, b_delivered, b_arrived, b_pool, ch, (pd_lay (b_length, b_op, b_arg, b_ins, b_inCoin, b_inA, b_inB, b_outs, b_amount, b_lock, b_parent, b_height, b_rewardLock, b_many, b_holds, gfe, grw) n b).1, wo, (pd_lay (b_length, b_op, b_arg, b_ins, b_inCoin, b_inA, b_inB, b_outs, b_amount, b_lock, b_parent, b_height, b_rewardLock, b_many, b_holds, gfe, grw) n b).2.2, (pd_lay (b_length, b_op, b_arg, b_ins, b_inCoin, b_inA, b_inB, b_outs, b_amount, b_lock, b_parent, b_height, b_rewardLock, b_many, b_holds, gfe, grw) n b).2.1, st, b_again, b_chosen))
    (H0 : ¬ pd_valid (b_length, b_op, b_arg, b_ins, b_inCoin, b_inA, b_inB, b_outs, b_amount, b_lock, b_parent, b_height, b_rewardLock, b_many, b_holds, gfe, grw) n b → ∀ S' wo st ch, pd_out S' → post 0 (g_made, g_blocks, g_arrivals, g_tip, g_pooled, nI (n + 1), b_op, b_arg, b_length, b_ins, b_inCoin, b_inA, b_inB, b_outs, b_amount, b_lock, b_parent, b_work, b_rewardLock, b_height, b_many, b_holds, b_delivered, b_arrived, b_pool, ch, (S').1, wo, (S').2.2, (S').2.1, st, b_again, b_chosen)) :
    wpY_walk post (g_made, g_blocks, g_arrivals, g_tip, g_pooled, g_chainLength, b_op, b_arg, b_length, b_ins, b_inCoin, b_inA, b_inB, b_outs, b_amount, b_lock, b_parent, b_work, b_rewardLock, b_height, b_many, b_holds, b_delivered, b_arrived, b_pool, b_chain, S.1, b_worth, S.2.2, S.2.1, b_stack, b_again, b_chosen) (nI b) := by
  have hbk := w.2.1
  have hec : b_height (nI b).toNatClampNeg = nI n := by rw [nI_clamp (by omega)]; exact he
  have L71 : ∀ (r k fuel : Nat) (ch : Nat → Int32) (x : Int32), k + r = n + 1 → r < fuel → (∀ j, j < k → ch (n - j) = nI (pd_anc (b_length, b_op, b_arg, b_ins, b_inCoin, b_inA, b_inB, b_outs, b_amount, b_lock, b_parent, b_height, b_rewardLock, b_many, b_holds, gfe, grw) b j)) → (0 < r → x = nI (pd_anc (b_length, b_op, b_arg, b_ins, b_inCoin, b_inA, b_inB, b_outs, b_amount, b_lock, b_parent, b_height, b_rewardLock, b_many, b_holds, gfe, grw) b k)) → wY_walk_71 post g_made g_blocks g_arrivals g_tip g_pooled (nI (n + 1)) fuel x (nI r + (-1)) b_op b_arg b_length b_ins b_inCoin b_inA b_inB b_outs b_amount b_lock b_parent b_work b_rewardLock b_height b_many b_holds b_delivered b_arrived b_pool ch pd_S0.1 b_worth pd_S0.2.2 pd_S0.2.1 b_stack b_again b_chosen := by
    intro r
    induction r with
    | zero =>
      intro k fuel ch x hk hf hl hx
      obtain ⟨fuel, rfl⟩ : ∃ q, fuel = q + 1 := ⟨fuel - 1, by omega⟩
      refine br_t (by decide) ⟨n + 2, ?_⟩
      have hl' : ∀ h, h ≤ n → ch h = nI (pd_anc (b_length, b_op, b_arg, b_ins, b_inCoin, b_inA, b_inB, b_outs, b_amount, b_lock, b_parent, b_height, b_rewardLock, b_many, b_holds, gfe, grw) b (n - h)) := fun h hh => by
        have := hl (n - h) (by omega)
        rw [show n - (n - h) = h by omega] at this; exact this
      refine ym_w97 w tk fq rq hb he hn hl' (fun hv wo st hw => H1 hv wo st ch hw hl') (fun hv S' wo st ho => H0 hv S' wo st ch ho) (n + 1) 0 (n + 2) _ _ (by omega) (by omega) trivial ?_
      intro c hc h0
      have h0' : (0 : Int32) ≤ if c < 152 then -1 else 0 := h0
      rw [if_pos hc] at h0'
      exact (pd_m1 h0').elim
    | succ r ih =>
      intro k fuel ch x hk hf hl hx
      obtain ⟨fuel, rfl⟩ : ∃ q, fuel = q + 1 := ⟨fuel - 1, by omega⟩
      obtain rfl := hx (by omega)
      have ha := pd_anc_of w hb he hn k (by omega)
      rw [pk_m1]
      refine br_f (nI_pos (by omega)) ⟨pk_in r 32 (by omega), nm_r (by rw [pk_cl r]) ⟨pk_in (pd_anc (b_length, b_op, b_arg, b_ins, b_inCoin, b_inA, b_inB, b_outs, b_amount, b_lock, b_parent, b_height, b_rewardLock, b_many, b_holds, gfe, grw) b k) 33 (by omega), nm_e (nm_e (ih (k + 1) fuel _ _ (by omega) (by omega) (fun j hj => ?_) (fun hr => ?_)))⟩⟩
      · by_cases e : j = k
        · subst e
          rw [show n - j = r by omega, pk_us]
        · rw [pk_un (by omega)]; exact hl j (by omega)
      · obtain ⟨p, q1, q2, q3, q4⟩ := pd_par w ha.1 (n := n - k - 1) (by rw [ha.2]; exact congrArg nI (by omega)) (by omega)
        rw [pk_cl (pd_anc (b_length, b_op, b_arg, b_ins, b_inCoin, b_inA, b_inB, b_outs, b_amount, b_lock, b_parent, b_height, b_rewardLock, b_many, b_holds, gfe, grw) b k), pd_anc, q3]
        exact q2
  have L71' := L71 (n + 1) 0 (n + 2) b_chain (nI b) (by omega) (by omega) (fun j hj => by omega) (fun _ => rfl)
  rw [pk_m1, ← pd_reset_S hS] at L71'
  have L31 : ∀ (d i fuel : Nat), i + d = 40 → d < fuel → wY_walk_31 post (nI b) g_made g_blocks g_arrivals g_tip g_pooled g_chainLength fuel (nI i) b_op b_arg b_length b_ins b_inCoin b_inA b_inB b_outs b_amount b_lock b_parent b_work b_rewardLock b_height b_many b_holds b_delivered b_arrived b_pool b_chain (pd_reset S.1 152 (-1)) b_worth (pd_reset S.2.2 i (-1)) (pd_reset S.2.1 152 0) b_stack b_again b_chosen := by
    intro d
    induction d with
    | zero =>
      intro i fuel hd hf
      obtain ⟨fuel, rfl⟩ : ∃ q, fuel = q + 1 := ⟨fuel - 1, by omega⟩
      obtain rfl : i = 40 := by omega
      exact br_t (by decide) ⟨pk_in b 33 (by omega), nm_r (by rw [hec, nI_1]) ⟨pk_in b 33 (by omega), nm_r hec ⟨n + 2, L71'⟩⟩⟩
    | succ d ih =>
      intro i fuel hd hf
      obtain ⟨fuel, rfl⟩ : ∃ q, fuel = q + 1 := ⟨fuel - 1, by omega⟩
      refine pk_le 40 i (fun z => by omega) (fun z => ⟨pk_in i 40 (by omega), nm_r (by rw [pk_cl i, ← pd_reset_s]) (nm_r (nI_1 i) (ih (i + 1) fuel (by omega) (by omega)))⟩)
  have L2 : ∀ (d i fuel : Nat), i + d = 152 → d < fuel → wY_walk_2 post (nI b) g_made g_blocks g_arrivals g_tip g_pooled g_chainLength fuel (nI i) b_op b_arg b_length b_ins b_inCoin b_inA b_inB b_outs b_amount b_lock b_parent b_work b_rewardLock b_height b_many b_holds b_delivered b_arrived b_pool b_chain (pd_reset S.1 i (-1)) b_worth S.2.2 (pd_reset S.2.1 i 0) b_stack b_again b_chosen := by
    intro d
    induction d with
    | zero =>
      intro i fuel hd hf
      obtain ⟨fuel, rfl⟩ : ∃ q, fuel = q + 1 := ⟨fuel - 1, by omega⟩
      obtain rfl : i = 152 := by omega
      have := L31 40 0 41 (by omega) (by omega)
      rw [pd_reset_0] at this
      exact br_t (by decide) ⟨41, this⟩
    | succ d ih =>
      intro i fuel hd hf
      obtain ⟨fuel, rfl⟩ : ∃ q, fuel = q + 1 := ⟨fuel - 1, by omega⟩
      refine pk_le 152 i (fun z => by omega) (fun z => ⟨pk_in i 152 (by omega), nm_r (by rw [pk_cl i, ← pd_reset_s]) ⟨pk_in i 152 (by omega), nm_r (by rw [pk_cl i, xb_0, ← pd_reset_s]) (nm_r (nI_1 i) (ih (i + 1) fuel (by omega) (by omega)))⟩⟩)
  have := L2 152 0 153 (by omega) (by omega)
  rw [pd_reset_0, pd_reset_0] at this
  exact ⟨153, this⟩
end
