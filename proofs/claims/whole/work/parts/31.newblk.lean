/-! a new block, pure -/
def nb_tx (D E : pd_D) : Prop := pd_tc E = pd_tc D ∧ pd_op E = pd_op D ∧ pd_tv E = pd_tv D ∧ pd_ic E = pd_ic D ∧ pd_co E = pd_co D ∧ pd_ia E = pd_ia D ∧ pd_ib E = pd_ib D ∧ pd_oc E = pd_oc D ∧ pd_oa E = pd_oa D ∧ pd_os E = pd_os D ∧ pd_fe E = pd_fe D
/-- E is D with the block x on p, its reward's script s, its transactions q 0 .. q (m - 1) -/
def nb (D E : pd_D) (x p s m : Nat) (q : pd_F) : Prop := nb_tx D E
    ∧ (∀ b, b < x → pd_pa E b = pd_pa D b ∧ pd_he E b = pd_he D b ∧ pd_rs E b = pd_rs D b ∧ pd_bs E b = pd_bs D b ∧ pd_rw E b = pd_rw D b) ∧ (∀ j, j < 4 * x → pd_bt E j = pd_bt D j)
    ∧ pd_pa E x = nI p ∧ pd_he E x = pd_he D p + 1 ∧ pd_rs E x = nI s ∧ pd_bs E x = nI m ∧ (∀ i, i < m → pd_bt E (4 * x + i) = q i)
theorem nb_ag {D E : pd_D} {made blocks p s m : Nat} {q : pd_F} (w : pd_wf D made blocks) (h : nb D E blocks p s m q) : pd_ag D E made blocks := by
  obtain ⟨⟨t1, t2, t3, t4, t5, t6, t7, t8, t9, t10, t11⟩, h1, h2, _⟩ := h
  refine ⟨fun t ht => ⟨by rw [t4], by rw [t8], by rw [t11], fun i hi => ⟨by rw [t5], by rw [t6], by rw [t7]⟩, fun o ho => ⟨by rw [t9], by rw [t10]⟩⟩, fun b hb => ?_, fun s' _ => ⟨by rw [t1], fun i hi => ⟨by rw [t2], by rw [t3]⟩⟩⟩
  obtain ⟨q1, q2, q3, q4, q5⟩ := h1 b hb
  refine ⟨q2, q3, q4, q5, fun _ => q1, fun i hi => h2 _ ?_⟩
  obtain ⟨_, _, ⟨n, hn, en, _⟩, _⟩ := w.2.2.2.2.2 b hb
  rw [pd_cl en (by omega)] at hi
  omega
theorem nb_coin {D E : pd_D} {t blocks x c : Nat} (h8 : pd_oc E = pd_oc D) (hx : blocks ≤ x) (q : pd_coin D t blocks c) : pd_coin E t x c := by
  rcases q with ⟨q1, q2, q3⟩ | ⟨q1, q2⟩
  · exact Or.inl ⟨q1, q2, by rw [h8]; exact q3⟩
  · exact Or.inr ⟨q1, by omega⟩
theorem nb_wf {D E : pd_D} {made blocks p s m : Nat} {q : pd_F} (w : pd_wf D made blocks) (h : nb D E blocks p s m q) (hp : p < blocks) (hs : s < 8) (hm : m ≤ 4) (hq : ∀ i, i < m → ∃ t, t < made ∧ q i = nI t) (h32 : blocks + 1 ≤ 32) : pd_wf E made (blocks + 1) := by
  have w1 := pd_wf_ag w (nb_ag w h)
  obtain ⟨⟨t1, t2, t3, t4, t5, t6, t7, t8, t9, t10, t11⟩, h1, h2, h3, h4, h5, h6, h7⟩ := h
  obtain ⟨u1, u2, u3, u4, uT, uB⟩ := w1
  refine ⟨by omega, h32, u3, u4, fun t ht => ?_, fun b hb => ?_⟩
  · obtain ⟨n, m', n1, n2, m1, m2, en, em, hc, hd, ho⟩ := uT t ht
    refine ⟨n, m', n1, n2, m1, m2, en, em, fun i hi => ?_, hd, ho⟩
    obtain ⟨c, c1, c2, c3⟩ := hc i hi
    exact ⟨c, c1, c2, nb_coin rfl (by omega) c3⟩
  · by_cases e : b = blocks
    · subst e
      obtain ⟨g, g1, g2, g3⟩ := pd_he_of w hp
      refine ⟨⟨g + 1, by omega, by rw [h4, g3, nI_1]⟩, ⟨s, hs, h5⟩, ⟨m, hm, h6, fun i hi => ?_⟩, fun _ => ⟨p, hp, h3, by rw [h4, (h1 p hp).2.1]⟩⟩
      obtain ⟨t, ht1, ht2⟩ := hq i hi
      exact ⟨t, ht1, (h7 i hi).trans ht2⟩
    · exact uB b (by omega)
theorem nb_agE {D E D' E' : pd_D} {made blocks p s m : Nat} {q q' : pd_F} (w : pd_wf D made blocks) (a : pd_ag D E made blocks) (h : nb D D' blocks p s m q) (h' : nb E E' blocks p s m q') (hp : p < blocks) (hm : m ≤ 4) (hqq : ∀ i, i < m → q' i = q i) (hrw : pd_rw E' blocks = pd_rw D' blocks) (htk : ∀ s, pd_agS D' E' s) : pd_ag D' E' made (blocks + 1) := by
  have a1 := pd_ag_trans (pd_ag_symm (nb_ag w h)) (pd_ag_trans a (nb_ag (pd_wf_ag w a) h'))
  obtain ⟨_, _, _, h3, h4, h5, h6, h7⟩ := h
  obtain ⟨_, _, _, g3, g4, g5, g6, g7⟩ := h'
  refine ⟨a1.1, fun b hb => ?_, fun s' _ => htk s'⟩
  by_cases e : b = blocks
  · subst e
    refine ⟨by rw [g4, h4, (a.2.1 p hp).1], by rw [g5, h5], by rw [g6, h6], hrw, fun _ => by rw [g3, h3], fun i hi => ?_⟩
    rw [pd_cl h6 (by omega)] at hi
    rw [g7 i hi, h7 i hi, hqq i hi]
  · exact a1.2.1 b (by omega)
theorem nb_rq {D E : pd_D} {made blocks p s m : Nat} {q : pd_F} (w : pd_wf D made blocks) (rq : pd_req D blocks) (h : nb D E blocks p s m q) (hm : m ≤ 4) (hr : pd_rw E blocks = pd_srw ((64 : Int32) >>> ((pd_he E blocks / 4) &&& 31)) (pd_fe E) (pd_bt E) (4 * blocks) m) : pd_req E (blocks + 1) := by
  have r1 := pd_req_ag w (nb_ag w h) rq
  intro b hb
  by_cases e : b = blocks
  · subst e
    rw [pd_cl h.2.2.2.2.2.2.1 (by omega)]
    exact hr
  · exact r1 b (by omega)
theorem nb_us {D E : pd_D} {made blocks p s m : Nat} {q use use' : pd_F} (w : pd_wf D made blocks) (us : cn_used D use made blocks) (h : nb D E blocks p s m q) (hs : s < 8) (h1 : use' s = 1) (h2 : ∀ s', s' ≠ s → use' s' = use s') : cn_used E use' made (blocks + 1) := by
  have u1 := cn_used_ag (nb_ag w h) us
  intro s' hs'
  have hiff : pd_used E made (blocks + 1) s' ↔ (pd_used E made blocks s' ∨ s' = s) := by
    constructor
    · rintro (⟨b, b1, b2⟩ | t)
      · by_cases e : b = blocks
        · subst e
          rw [h.2.2.2.2.2.1, nI_eq (by omega) (by omega)] at b2
          exact Or.inr b2.symm
        · exact Or.inl (Or.inl ⟨b, by omega, b2⟩)
      · exact Or.inl (Or.inr t)
    · rintro ((⟨b, b1, b2⟩ | t) | e)
      · exact Or.inl ⟨b, by omega, b2⟩
      · exact Or.inr t
      · subst e
        exact Or.inl ⟨blocks, by omega, h.2.2.2.2.2.1⟩
  rw [hiff]
  by_cases e : s' = s
  · subst e
    exact Or.inr ⟨h1, Or.inr rfl⟩
  · rw [h2 s' e]
    rcases u1 s' hs' with ⟨q1, q2⟩ | ⟨q1, q2⟩
    · exact Or.inl ⟨q1, fun z => by rcases z with z | z; exact q2 z; exact e z⟩
    · exact Or.inr ⟨q1, Or.inl q2⟩
theorem nb_df {D E D' E' : pd_D} {made blocks : Nat} (t : nb_tx D D') (t' : nb_tx E E') (df : cn_drf D E made blocks) : cn_drf D' E' made (blocks + 1) := by
  obtain ⟨t1, t2, t3, t4, t5, t6, t7, t8, t9, t10, t11⟩ := t
  obtain ⟨s1, s2, s3, s4, s5, s6, s7, s8, s9, s10, s11⟩ := t'
  unfold cn_drf at *
  rw [t4, t5, t6, t7, t8, t9, t10, s4, s5, s6, s7, s8, s9, s10]
  obtain ⟨di, od, d1, d2, d3, d4, d5, d6, d7, d8, d9, d10⟩ := df
  refine ⟨di, od, d1, d2, d3, d4, d5, d6, fun i hi => ?_, d8, d9, d10⟩
  obtain ⟨q1, q2, q3, c, c1, c2, c3⟩ := d7 i hi
  exact ⟨q1, q2, q3, c, c1, c2, nb_coin t8 (by omega) c3⟩
theorem nb_blk {D E : pd_D} {made blocks p s m ar tp : Nat} {q st dl av cw wk cw' wk' : pd_F} {wv : Int32} (w : pd_wf D made blocks) (h : nb D E blocks p s m q) (hp : p < blocks) (h32 : blocks + 1 ≤ 32) (B : cn_blk D st dl av cw wk blocks ar tp 99)
    (hcw : ∀ b, b < blocks → cw' b = cw b) (hwk : ∀ b, b < blocks → wk' b = wk b) (ecw : cw' blocks = cw p + wv) (ewk : wk' blocks = wv) (hwv : ∃ j, j ≤ 9 ∧ wv = nI j) : cn_blk E st dl av cw' wk' (blocks + 1) ar tp 99 := by
  have a := nb_ag w h
  obtain ⟨B1, B2, B3, B4, B5, ⟨T1, T2, T3, T4⟩, B7, B8⟩ := cn_blk_ag w a B
  have hb4 := B4 blocks (Nat.le_refl _) (by omega)
  have hneg : ¬ 0 ≤ av blocks := by rw [hb4.2.1]; exact pd_m1
  have h3 := h.2.2.2.1
  refine ⟨fun b hb _ => ?_, fun b c hb hc b0 e => ?_, B3, fun b hb1 hb2 => B4 b (by omega) hb2, ⟨?_, fun b hb => ?_, fun b hb0 hb => ?_⟩, ⟨by omega, T2, T3, T4⟩, fun b hb hbT b0 vb => ?_, B8⟩
  · by_cases e : b = blocks
    · subst e; exact Or.inl hb4
    · exact B1 b (by omega) (by omega)
  · have hbn : b ≠ blocks := fun z => by rw [z] at b0; exact hneg b0
    have hcn : c ≠ blocks := fun z => by rw [z] at e; rw [e] at b0; exact hneg b0
    exact B2 b c (by omega) (by omega) b0 e
  · rw [hwk 0 (by omega), hcw 0 (by omega)]; exact B5.1
  · by_cases e : b = blocks
    · subst e
      obtain ⟨c, c1, c2⟩ := B5.2.1 p hp
      obtain ⟨j, j1, j2⟩ := hwv
      exact ⟨c + j, by omega, by rw [ecw, c2, j2, nI_add]⟩
    · rw [hcw b (by omega)]; exact B5.2.1 b (by omega)
  · by_cases e : b = blocks
    · subst e
      rw [ecw, ewk, pd_cl h3 (by omega), hcw p hp]
    · obtain ⟨_, _, _, hpar⟩ := (pd_wf_ag w a).2.2.2.2.2 b (by omega)
      obtain ⟨pp, p1, p2, _⟩ := hpar hb0
      have hpc := pd_cl p2 (by omega)
      rw [hcw b (by omega), hwk b (by omega), hpc, hcw pp (by omega), ← hpc]
      exact B5.2.2 b hb0 (by omega)
  · have hbn : b ≠ blocks := fun z => by rw [z] at b0; exact hneg b0
    rw [hcw b (by omega), hcw tp T1]
    exact B7 b (by omega) hbT b0 vb
theorem nb_rdy {D E : pd_D} {made blocks p s m : Nat} {q dl av : pd_F} (w : pd_wf D made blocks) (h : nb D E blocks p s m q) (hd : dl blocks = 0) (RD : cn_rdy D dl av blocks) : cn_rdy E dl av (blocks + 1) := by
  have r := cn_rdy_ag (nb_ag w h) RD
  intro b b0 hb e1 e2
  by_cases e : b = blocks
  · rw [e, hd] at e1; exact absurd e1 (by decide)
  · exact r b b0 (by omega) e1 e2
