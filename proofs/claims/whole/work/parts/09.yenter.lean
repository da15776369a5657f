/-! sums, and Y's enter -/
def pd_sin (f co : pd_F) (base : Nat) : Nat → Int32
  | 0 => 0
  | n + 1 => pd_sin f co base n + f (co (base + n)).toNatClampNeg
def pd_sout (x : Int32) (oa : pd_F) (base : Nat) : Nat → Int32
  | 0 => x
  | n + 1 => pd_sout x oa base n - oa (base + n)
def pd_amt (D : pd_D) : pd_F := fun c => if c < 120 then pd_oa D c else pd_rw D (c - 120)
def pd_feq (D : pd_D) (made : Nat) : Prop := ∀ t, t < made → pd_fe D t = pd_sout (pd_sin (pd_amt D) (pd_co D) (3 * t) (pd_ic D t).toNatClampNeg) (pd_oa D) (3 * t) (pd_oc D t).toNatClampNeg
def pd_srw (x : Int32) (fe bt : pd_F) (base : Nat) : Nat → Int32
  | 0 => x
  | n + 1 => pd_srw x fe bt base n + fe (bt (base + n)).toNatClampNeg
def pd_req (D : pd_D) (blocks : Nat) : Prop := ∀ b, b < blocks → pd_rw D b = pd_srw ((64 : Int32) >>> ((pd_he D b / 4) &&& 31)) (pd_fe D) (pd_bt D) (4 * b) (pd_bs D b).toNatClampNeg
def pd_wor (D : pd_D) (f w : pd_F) : Prop := ∀ c, c < 152 → 0 ≤ f c → w c = pd_amt D c
def pd_rng (f : pd_F) : Prop := ∀ c, c < 152 → f c = -1 ∨ ∃ g, g < 32 ∧ f c = nI g
theorem pd_rng_0 : pd_rng pd_S0.1 := fun c h => Or.inl (if_pos h)
theorem pd_rng_set {f : pd_F} {base n q : Nat} (hq : q < 32) (r : pd_rng f) : pd_rng (pd_setH f base n (nI q)) := by
  intro c hc
  by_cases z : base ≤ c ∧ c < base + n
  · rw [pd_setH_in z]; exact Or.inr ⟨q, hq, rfl⟩
  · rw [pd_setH_no z]; exact r c hc
theorem pd_rng_txs {D : pd_D} {b q : Nat} {S : pd_S} (hq : q < 32) (r : pd_rng S.1) : ∀ n, pd_rng (pd_txs D b (nI q) n S).1 := by
  intro n
  induction n with
  | zero => exact r
  | succ n ih => exact pd_rng_set hq ih
theorem pd_rng_blk {D : pd_D} {b q : Nat} {S : pd_S} (hq : q < 32) (e : pd_he D b = nI q) (r : pd_rng S.1) : pd_rng (pd_blk D b S).1 := by
  intro c hc
  show upd _ _ _ c = -1 ∨ ∃ g, g < 32 ∧ upd _ _ _ c = nI g
  rw [e]
  by_cases z : c = 120 + b
  · rw [z, pk_us]; exact Or.inr ⟨q, hq, rfl⟩
  · rw [pk_un z]; exact pd_rng_txs hq r _ c hc
theorem pd_rng_lay {D : pd_D} {made blocks : Nat} (w : pd_wf D made blocks) : ∀ n b, b < blocks → pd_he D b = nI n → n < 32 → pd_rng (pd_lay D n b).1 := by
  intro n
  induction n with
  | zero => intro b hb he hn; exact pd_rng_blk hn he pd_rng_0
  | succ n ih =>
    intro b hb he hn
    obtain ⟨p, h1, h2, h3, h4⟩ := pd_par w hb he (by omega)
    rw [pd_lay, h3]
    exact pd_rng_blk hn he (ih p (by omega) h4 (by omega))
/-- two forms of: a reward is deep enough -/
theorem pd_deep {h g : Nat} (hh : h ≤ 64) (hg : g ≤ 64) : (¬ nI h - 2 < nI g) ↔ 2 ≤ nI h - nI g := by
  have e1 : (nI h - 2).toInt = (h : Int) - 2 := pk_sub_toInt (b := 2) (by omega) (by omega)
  have e2 : (nI h - nI g).toInt = (h : Int) - g := pk_sub_toInt (by omega) (by omega)
  rw [Int32.lt_iff_toInt_lt, Int32.le_iff_toInt_le, e1, e2, nI_toInt (by omega), show (2 : Int32).toInt = 2 from by decide]
  omega
def pd_okX (D : pd_D) (S : pd_S) (t : Nat) (h : Int32) : Prop := S.2.2 t < 0 ∧ (∀ i, i < (pd_ic D t).toNatClampNeg → pd_okIn D S h (3 * t + i))
theorem yb_3 (t i : Nat) : 3 * nI t + nI i = nI (3 * t + i) := by rw [show (3 : Int32) = nI 3 from rfl, pk_mul, nI_add]
theorem yb_4 (t i : Nat) : 4 * nI t + nI i = nI (4 * t + i) := by rw [show (4 : Int32) = nI 4 from rfl, pk_mul, nI_add]
theorem yb_30 (t : Nat) : 3 * nI t = nI (3 * t + 0) := by rw [show (3 : Int32) = nI 3 from rfl, pk_mul]; rfl
theorem yb_40 (t : Nat) : 4 * nI t = nI (4 * t + 0) := by rw [show (4 : Int32) = nI 4 from rfl, pk_mul]; rfl
section
variable {g_made g_blocks g_arrivals g_tip g_pooled g_chainLength : Int32} {b_op b_arg b_length b_ins b_inCoin b_inA b_inB b_outs b_amount b_lock b_parent b_work b_rewardLock b_height b_many b_holds b_delivered b_arrived b_pool b_chain b_from b_worth b_within b_spent b_stack b_again b_chosen gfe grw : Nat → Int32}
theorem ym_en144 {t m : Nat} {h acc : Int32} (ht : t < 40) (hm : m ≤ 3) (em : b_outs t = nI m) {post : Int32 → SY → Prop} (f : Nat → Int32)
    (H : ∀ wo, pd_wor (b_length, b_op, b_arg, b_ins, b_inCoin, b_inA, b_inB, b_outs, b_amount, b_lock, b_parent, b_height, b_rewardLock, b_many, b_holds, gfe, grw) (pd_setH f (3 * t) m h) wo → post (pd_sout acc b_amount (3 * t) m) (g_made, g_blocks, g_arrivals, g_tip, g_pooled, g_chainLength, b_op, b_arg, b_length, b_ins, b_inCoin, b_inA, b_inB, b_outs, b_amount, b_lock, b_parent, b_work, b_rewardLock, b_height, b_many, b_holds, b_delivered, b_arrived, b_pool, b_chain, pd_setH f (3 * t) m h, wo, upd b_within t h, b_spent, b_stack, b_again, b_chosen)) :
    ∀ (d i fuel : Nat) (wo : Nat → Int32), i + d = m → d < fuel → pd_wor (b_length, b_op, b_arg, b_ins, b_inCoin, b_inA, b_inB, b_outs, b_amount, b_lock, b_parent, b_height, b_rewardLock, b_many, b_holds, gfe, grw) (pd_setH f (3 * t) i h) wo → wY_enter_144 post (nI t) h g_made g_blocks g_arrivals g_tip g_pooled g_chainLength fuel (pd_sout acc b_amount (3 * t) i) (nI (3 * t + i)) b_op b_arg b_length b_ins b_inCoin b_inA b_inB b_outs b_amount b_lock b_parent b_work b_rewardLock b_height b_many b_holds b_delivered b_arrived b_pool b_chain (pd_setH f (3 * t) i h) wo b_within b_spent b_stack b_again b_chosen := by
  have e3 : 3 * nI t + b_outs (nI t).toNatClampNeg = nI (3 * t + m) := by rw [pk_cl t, em]; exact yb_3 t m
  intro d
  induction d with
  | zero =>
    intro i fuel wo hi hf hw
    obtain ⟨fuel, rfl⟩ : ∃ q, fuel = q + 1 := ⟨fuel - 1, by omega⟩
    obtain rfl : i = m := by omega
    exact ⟨pk_in t 41 (by omega), br_t (by rw [e3]; exact nI_le (Nat.le_refl _) (by omega)) ⟨pk_in t 40 (by omega), nm_r (by rw [pk_cl t]) (H wo hw)⟩⟩
  | succ d ih =>
    intro i fuel wo hi hf hw
    obtain ⟨fuel, rfl⟩ : ∃ q, fuel = q + 1 := ⟨fuel - 1, by omega⟩
    have ec := pk_cl (x := nI (3 * t + i)) (3 * t + i)
    refine ⟨pk_in t 41 (by omega), pk_le (3 * t + m) (3 * t + i) (fun z => by omega) (fun z => ⟨pk_in (3 * t + i) 123 (by omega), nm_r (by rw [ec] <;> rfl) ⟨pk_in (3 * t + i) 152 (by omega), nm_r (by rw [ec, ← pd_setH_s]) ⟨pk_in (3 * t + i) 123 (by omega), pk_in (3 * t + i) 152 (by omega), nm_r (by rw [ec]) (nm_r (nI_1 (3 * t + i)) (ih (i + 1) fuel _ (by omega) (by omega) ?_))⟩⟩⟩) e3⟩
    intro c hc h0
    by_cases e : c = 3 * t + i
    · subst e
      rw [pk_us]
      exact (if_pos (by omega)).symm
    · rw [pk_un e]
      rw [pd_setH_s, pk_un e] at h0
      exact hw c hc h0
theorem ym_enter {made blocks t q : Nat} (w : pd_wf (b_length, b_op, b_arg, b_ins, b_inCoin, b_inA, b_inB, b_outs, b_amount, b_lock, b_parent, b_height, b_rewardLock, b_many, b_holds, gfe, grw) made blocks) (tk : fx_tok b_length b_op b_arg) (fq : pd_feq (b_length, b_op, b_arg, b_ins, b_inCoin, b_inA, b_inB, b_outs, b_amount, b_lock, b_parent, b_height, b_rewardLock, b_many, b_holds, gfe, grw) made) (ht : t < made) (hq : q < 32) (S : pd_S) (hS : pd_out S) (rg : pd_rng S.1) (wr : pd_wor (b_length, b_op, b_arg, b_ins, b_inCoin, b_inA, b_inB, b_outs, b_amount, b_lock, b_parent, b_height, b_rewardLock, b_many, b_holds, gfe, grw) S.1 b_worth) {post : Int32 → SY → Prop}
    (H1 : pd_okX (b_length, b_op, b_arg, b_ins, b_inCoin, b_inA, b_inB, b_outs, b_amount, b_lock, b_parent, b_height, b_rewardLock, b_many, b_holds, gfe, grw) S t (nI q) → ∀ wo st, pd_wor (b_length, b_op, b_arg, b_ins, b_inCoin, b_inA, b_inB, b_outs, b_amount, b_lock, b_parent, b_height, b_rewardLock, b_many, b_holds, gfe, grw) (pd_layTx (b_length, b_op, b_arg, b_ins, b_inCoin, b_inA, b_inB, b_outs, b_amount, b_lock, b_parent, b_height, b_rewardLock, b_many, b_holds, gfe, grw) t (nI q) S).1 wo → post (gfe t) (g_made, g_blocks, g_arrivals, g_tip, g_pooled, g_chainLength, b_op, b_arg, b_length, b_ins, b_inCoin, b_inA, b_inB, b_outs, b_amount, b_lock, b_parent, b_work, b_rewardLock, b_height, b_many, b_holds, b_delivered, b_arrived, b_pool, b_chain, (pd_layTx (b_length, b_op, b_arg, b_ins, b_inCoin, b_inA, b_inB, b_outs, b_amount, b_lock, b_parent, b_height, b_rewardLock, b_many, b_holds, gfe, grw) t (nI q) S).1, wo, (pd_layTx (b_length, b_op, b_arg, b_ins, b_inCoin, b_inA, b_inB, b_outs, b_amount, b_lock, b_parent, b_height, b_rewardLock, b_many, b_holds, gfe, grw) t (nI q) S).2.2, (pd_layTx (b_length, b_op, b_arg, b_ins, b_inCoin, b_inA, b_inB, b_outs, b_amount, b_lock, b_parent, b_height, b_rewardLock, b_many, b_holds, gfe, grw) t (nI q) S).2.1, st, b_again, b_chosen))
    (H0 : ¬ pd_okX (b_length, b_op, b_arg, b_ins, b_inCoin, b_inA, b_inB, b_outs, b_amount, b_lock, b_parent, b_height, b_rewardLock, b_many, b_holds, gfe, grw) S t (nI q) → ∀ S' st, pd_out S' → post (-1) (g_made, g_blocks, g_arrivals, g_tip, g_pooled, g_chainLength, b_op, b_arg, b_length, b_ins, b_inCoin, b_inA, b_inB, b_outs, b_amount, b_lock, b_parent, b_work, b_rewardLock, b_height, b_many, b_holds, b_delivered, b_arrived, b_pool, b_chain, (S').1, b_worth, (S').2.2, (S').2.1, st, b_again, b_chosen)) :
    wpY_enter post (g_made, g_blocks, g_arrivals, g_tip, g_pooled, g_chainLength, b_op, b_arg, b_length, b_ins, b_inCoin, b_inA, b_inB, b_outs, b_amount, b_lock, b_parent, b_work, b_rewardLock, b_height, b_many, b_holds, b_delivered, b_arrived, b_pool, b_chain, S.1, b_worth, S.2.2, S.2.1, b_stack, b_again, b_chosen) (nI t) (nI q) := by
  have hm := w.2.2.1
  obtain ⟨n, m, _, hn, _, hm3, en, em, hc, hd, _⟩ := w.2.2.2.2.1 _ ht
  have en' : b_ins t = nI n := en
  have em' : b_outs t = nI m := em
  have enc : (pd_ic (b_length, b_op, b_arg, b_ins, b_inCoin, b_inA, b_inB, b_outs, b_amount, b_lock, b_parent, b_height, b_rewardLock, b_many, b_holds, gfe, grw) t).toNatClampNeg = n := pd_cl en (by omega)
  have emc : (pd_oc (b_length, b_op, b_arg, b_ins, b_inCoin, b_inA, b_inB, b_outs, b_amount, b_lock, b_parent, b_height, b_rewardLock, b_many, b_holds, gfe, grw) t).toNatClampNeg = m := pd_cl em (by omega)
  have e3 : 3 * nI t + b_ins (nI t).toNatClampNeg = nI (3 * t + n) := by rw [pk_cl t, en']; exact yb_3 t n
  have efe : gfe t = pd_sout (pd_sin (pd_amt (b_length, b_op, b_arg, b_ins, b_inCoin, b_inA, b_inB, b_outs, b_amount, b_lock, b_parent, b_height, b_rewardLock, b_many, b_holds, gfe, grw)) b_inCoin (3 * t) n) b_amount (3 * t) m := by
    have := fq t ht
    rw [enc, emc] at this
    exact this
  unfold pd_okX at H1 H0
  rw [enc] at H1 H0
  unfold pd_layTx at H1
  rw [enc, emc] at H1
  refine ⟨pk_in t 40 (by omega), ?_⟩
  rw [pk_cl t]
  refine br_c (fun z0 => nm_r (yb_30 t) ?_) (fun z0 => H0 (fun p => z0 p.1) S _ hS)
  have outS : ∀ i, i ≤ n → pd_out (S.1, pd_spend S.2.1 b_inCoin (3 * t) i, S.2.2) := by
    intro i hi
    refine ⟨hS.1, fun c hc' => ?_, hS.2.2⟩
    show pd_spend S.2.1 b_inCoin (3 * t) i c = 0
    rw [pd_spend_no, hS.2.1 c hc']
    intro j hj e
    obtain ⟨c', h3, ec, _⟩ := hc j (by omega)
    have : (b_inCoin (3 * t + j)).toNatClampNeg = c' := pd_cl ec (by omega)
    omega
  have key : ∀ (d i fuel : Nat) (st : Nat → Int32), i + d = n → d < fuel → (∀ j, j < i → pd_okIn (b_length, b_op, b_arg, b_ins, b_inCoin, b_inA, b_inB, b_outs, b_amount, b_lock, b_parent, b_height, b_rewardLock, b_many, b_holds, gfe, grw) S (nI q) (3 * t + j)) → wY_enter_18 post (nI t) (nI q) fuel (pd_sin (pd_amt (b_length, b_op, b_arg, b_ins, b_inCoin, b_inA, b_inB, b_outs, b_amount, b_lock, b_parent, b_height, b_rewardLock, b_many, b_holds, gfe, grw)) b_inCoin (3 * t) i) (nI (3 * t + i)) g_made g_blocks g_arrivals g_tip g_pooled g_chainLength b_op b_arg b_length b_ins b_inCoin b_inA b_inB b_outs b_amount b_lock b_parent b_work b_rewardLock b_height b_many b_holds b_delivered b_arrived b_pool b_chain S.1 b_worth S.2.2 (pd_spend S.2.1 b_inCoin (3 * t) i) st b_again b_chosen := by
    intro d
    induction d with
    | zero =>
      intro i fuel st hi hf hj
      obtain ⟨fuel, rfl⟩ : ∃ q, fuel = q + 1 := ⟨fuel - 1, by omega⟩
      obtain rfl : i = n := by omega
      refine ⟨pk_in t 41 (by omega), br_t (by rw [e3]; exact nI_le (Nat.le_refl _) (by omega)) (nm_r (yb_30 t) ⟨m + 1, ?_⟩)⟩
      have H144 : ∀ wo, pd_wor (b_length, b_op, b_arg, b_ins, b_inCoin, b_inA, b_inB, b_outs, b_amount, b_lock, b_parent, b_height, b_rewardLock, b_many, b_holds, gfe, grw) (pd_setH S.1 (3 * t) m (nI q)) wo → post (pd_sout (pd_sin (pd_amt (b_length, b_op, b_arg, b_ins, b_inCoin, b_inA, b_inB, b_outs, b_amount, b_lock, b_parent, b_height, b_rewardLock, b_many, b_holds, gfe, grw)) b_inCoin (3 * t) i) b_amount (3 * t) m) (g_made, g_blocks, g_arrivals, g_tip, g_pooled, g_chainLength, b_op, b_arg, b_length, b_ins, b_inCoin, b_inA, b_inB, b_outs, b_amount, b_lock, b_parent, b_work, b_rewardLock, b_height, b_many, b_holds, b_delivered, b_arrived, b_pool, b_chain, pd_setH S.1 (3 * t) m (nI q), wo, upd S.2.2 t (nI q), pd_spend S.2.1 b_inCoin (3 * t) i, st, b_again, b_chosen) := fun wo hw => by
        rw [← efe]
        exact H1 ⟨z0, hj⟩ wo st hw
      have := ym_en144 (by omega) hm3 em' S.1 H144 m 0 (m + 1) b_worth (by omega) (by omega) (by rw [pd_setH_0]; exact wr)
      rw [pd_setH_0] at this
      exact this
    | succ d ih =>
      intro i fuel st hi hf hj
      obtain ⟨fuel, rfl⟩ : ∃ q, fuel = q + 1 := ⟨fuel - 1, by omega⟩
      obtain ⟨c, hc1, hc2, hc3⟩ := hc i (by omega)
      have hc2' : b_inCoin (3 * t + i) = nI c := hc2
      have hqc := pd_coin_mono (Nat.le_of_lt ht) hc3
      have ecc : (pd_co (b_length, b_op, b_arg, b_ins, b_inCoin, b_inA, b_inB, b_outs, b_amount, b_lock, b_parent, b_height, b_rewardLock, b_many, b_holds, gfe, grw) (3 * t + i)).toNatClampNeg = c := pd_cl hc2 (by omega)
      have ecx : (nI c).toNatClampNeg = c := pk_cl c
      obtain ⟨s8, so, sr⟩ := pd_sc_eq w hqc
      have spc : pd_spend S.2.1 b_inCoin (3 * t) i c = S.2.1 c := by
        refine pd_spend_no _ fun j hj' e => ?_
        obtain ⟨c', h3, ec', _⟩ := hc j (by omega)
        have ec1 : (b_inCoin (3 * t + j)).toNatClampNeg = c' := pd_cl ec' (by omega)
        have : j = i := hd j i (by omega) (by omega) (by rw [ec', hc2]; exact congrArg nI (by omega))
        omega
      have fail : ¬ pd_okIn (b_length, b_op, b_arg, b_ins, b_inCoin, b_inA, b_inB, b_outs, b_amount, b_lock, b_parent, b_height, b_rewardLock, b_many, b_holds, gfe, grw) S (nI q) (3 * t + i) → ∀ st', post (-1) (g_made, g_blocks, g_arrivals, g_tip, g_pooled, g_chainLength, b_op, b_arg, b_length, b_ins, b_inCoin, b_inA, b_inB, b_outs, b_amount, b_lock, b_parent, b_work, b_rewardLock, b_height, b_many, b_holds, b_delivered, b_arrived, b_pool, b_chain, S.1, b_worth, S.2.2, pd_spend S.2.1 b_inCoin (3 * t) i, st', b_again, b_chosen) := fun hno st' => H0 (fun p => hno (p.2 i (by omega))) _ st' (outS i (by omega))
      have m82 : 0 ≤ S.1 c → S.2.1 c = 0 → (120 ≤ c → 2 ≤ nI q - S.1 c) → wY_enter_82 post (wY_enter_18 post (nI t) (nI q) fuel) (nI t) (nI q) (pd_sin (pd_amt (b_length, b_op, b_arg, b_ins, b_inCoin, b_inA, b_inB, b_outs, b_amount, b_lock, b_parent, b_height, b_rewardLock, b_many, b_holds, gfe, grw)) b_inCoin (3 * t) i) (nI (3 * t + i)) (nI c) g_made g_blocks g_arrivals g_tip g_pooled g_chainLength b_op b_arg b_length b_ins b_inCoin b_inA b_inB b_outs b_amount b_lock b_parent b_work b_rewardLock b_height b_many b_holds b_delivered b_arrived b_pool b_chain S.1 b_worth S.2.2 (pd_spend S.2.1 b_inCoin (3 * t) i) st b_again b_chosen := by
        intro g0 g1 g2
        unfold wY_enter_82
        rw [pk_cl (x := nI (3 * t + i)) (3 * t + i), ecx]
        refine ⟨pk_in (3 * t + i) 123 (by omega), pk_in (3 * t + i) 123 (by omega), pk_in c 152 hc1, ym_fits hc1 s8 so sr tk (fun hf' st' => ?_) (fun hf' st' => ?_)⟩
        · have hok : pd_okIn (b_length, b_op, b_arg, b_ins, b_inCoin, b_inA, b_inB, b_outs, b_amount, b_lock, b_parent, b_height, b_rewardLock, b_many, b_holds, gfe, grw) S (nI q) (3 * t + i) := by
            unfold pd_okIn
            rw [ecc]
            exact ⟨g0, g1, g2, hf'⟩
          refine br_f (by decide) ⟨pk_in c 152 hc1, nm_r (e' := pd_spend S.2.1 b_inCoin (3 * t) (i + 1)) (by rw [pd_spend, hc2', ecx]; rfl) ⟨pk_in c 152 hc1, nm_r (e' := pd_sin (pd_amt (b_length, b_op, b_arg, b_ins, b_inCoin, b_inA, b_inB, b_outs, b_amount, b_lock, b_parent, b_height, b_rewardLock, b_many, b_holds, gfe, grw)) b_inCoin (3 * t) (i + 1)) (by rw [pd_sin, hc2', ecx, wr c hc1 g0]) (nm_r (nI_1 (3 * t + i)) (ih (i + 1) fuel st' (by omega) (by omega) fun j hj' => ?_))⟩⟩
          by_cases e : j = i
          · subst e; exact hok
          · exact hj j (by omega)
        · refine br_t rfl (fail (fun p => hf' ?_) st')
          unfold pd_okIn at p
          rw [ecc] at p
          exact p.2.2.2
      refine ⟨pk_in t 41 (by omega), pk_le (3 * t + n) (3 * t + i) (fun z => by omega) (fun z => ⟨pk_in (3 * t + i) 123 (by omega), nm_r ((congrArg b_inCoin (pk_cl (3 * t + i))).trans hc2) ⟨pk_in c 152 hc1, ?_⟩⟩) e3⟩
      rw [ecx]
      unfold pd_okIn at fail
      rw [ecc] at fail
      refine br_c (fun z1 => fail (fun p => absurd p.1 (Int32.not_le.mpr z1)) _) (fun z1 => ⟨pk_in c 152 hc1, ?_⟩)
      have z1' : 0 ≤ S.1 c := Int32.not_lt.mp z1
      obtain ⟨g, hg, eg⟩ : ∃ g, g < 32 ∧ S.1 c = nI g := by
        rcases rg c hc1 with e | e
        · rw [e] at z1'; exact (pd_m1 z1').elim
        · exact e
      refine br_c (fun z2 => ?_) (fun z2 => fail (fun p => z2 (spc.trans p.2.1)) _)
      rw [spc] at z2
      refine pk_lt c 120 (fun z3 => m82 z1' z2 (fun q => by omega)) (fun z3 => ⟨pk_in c 152 hc1, br_c (fun z4 => fail (fun p => ?_) _) (fun z4 => m82 z1' z2 (fun _ => ?_))⟩)
      · have := p.2.2.1 z3
        rw [eg] at this z4
        exact (pd_deep (by omega) (by omega)).mpr this z4
      · rw [eg] at z4 ⊢
        exact (pd_deep (by omega) (by omega)).mp z4
  exact ⟨n + 1, key n 0 (n + 1) _ (by omega) (by omega) (fun j hj => by omega)⟩
end
