/-! the calls on the loft, on worlds and hearings -/
section Q1
variable {j : Nat} {c : CV} {r : Nat → Nat} {hs : HS} {tr : Nat} {sd : Int32} {σ σ' : PH} {d : PD}
theorem InA.ok (I : InA j c r hs tr sd σ d) : CVok c := I.2.1.1
theorem InA.n8 (I : InA j c r hs tr sd σ d) : cN c ≤ 8 := I.2.1.1.1
theorem InA.mc (I : InA j c r hs tr sd σ d) : MC c σ := I.2.2.2.1.1
theorem InA.xc (I : InA j c r hs tr sd σ d) : XC c σ d.1 := I.2.2.1.1.1
theorem InA.xq (I : InA j c r hs tr sd σ d) : XQ c (WL (cN c) (r 0)) σ d.1 := I.2.2.1.1
theorem InA.rep (I : InA j c r hs tr sd σ d) : Rep (gJ σ d.1 7) (gJ σ d.1 8) (rp (WL (cN c) (r 0)) (okH c hs)) := I.2.2.1.2.2.2
theorem InA.m3 (I : InA j c r hs tr sd σ d) : r 0 ≤ 3 := I.2.1.2.1.2.1
theorem InA.poss (I : InA j c r hs tr sd σ d) : f_X2_possible σ d.1 = nI (psC c (r 0) hs).length := by
  rw [f2_possible I.xq.2.2.2 I.rep, List.countP_eq_length_filter]; rfl
theorem SP_SCR (d : PD) (r k : Nat) (h : SP r k) : SCR d r k := by unfold SP at h; unfold SCR; omega
theorem mod_poss (I : InA j c r hs tr sd σ d) : Rt (f_X9_possible σ) (fun u => u.1 = nI (psC c (r 0) hs).length ∧ LsI u.2 101 (psC c (r 0) hs) ∧ InA j c r hs tr sd u.2 d ∧ LsI u.2 100 (WL (cN c) (r 0)) ∧ gI u.2 81 34 = nI (WL (cN c) (r 0)).length ∧ Fr SP σ u.2) := by
  refine (f9_possible I.ok I.mc (I.2.2.2.1.2.1 0 (by decide)) I.m3 I.2.2.2.1.2.2.1 I.2.1.2.2).m ?_
  rintro ⟨v, σ1⟩ ⟨h1, h2, h3, h4, h5⟩
  exact ⟨h1, h2, I.scr h5 (SP_SCR d), h4, h3, h5⟩
theorem ps92 (I : InA j c r hs tr sd σ d) : (psC c (r 0) hs).length ≤ 92 := psC_len I.ok I.m3 hs
/-- 0, 1, or another -/
theorem one_i (p : Int32) : (p = 0 ∧ f_X9_isOne p = 1) ∨ (p = 1 ∧ f_X9_isOne p = 1) ∨ (p ≠ 0 ∧ p ≠ 1 ∧ f_X9_isOne p = 0) := by
  unfold f_X9_isOne
  by_cases h0 : p = 0
  · exact Or.inl ⟨h0, if_pos h0⟩
  · by_cases h1 : p = 1
    · exact Or.inr (Or.inl ⟨h1, by rw [if_neg h0, if_pos h1]⟩)
    · exact Or.inr (Or.inr ⟨h0, h1, by rw [if_neg h0, if_neg h1]⟩)
theorem st_fault (σ : PH) (d : PD) (hI : Inv σ d) : ∃ (u v : Int32), f_X8_fault σ = u ∧ f_X9_fault σ = v ∧ u = v ∧ Inv σ d := by
  obtain ⟨c, r, hs, tr, sd, I⟩ := id hI
  exact ⟨_, _, rfl, rfl, I.1.2.2.1, hI⟩
theorem st_worlds (σ : PH) (d : PD) (p1 : Int32) (hI : Inv σ d) : ∃ (u v : Int32 × PH), f_X8_worlds σ d p1 = some u ∧ f_X9_worlds u.2 p1 = some v ∧ u.1 = v.1 ∧ Inv v.2 d := by
  obtain ⟨c, r, hs, tr, sd, I⟩ := hI
  refine two (y := fun s => f_X9_worlds s p1) ?_
  unfold f_X8_worlds
  rcases one_i p1 with ⟨rfl, e1⟩ | ⟨rfl, e1⟩ | ⟨n0, n1, e1⟩
  · rw [if_pos rfl]
    refine Rt.s ?_
    dsimp only
    unfold f_X9_worlds
    rw [bnd_d, e1, if_neg (by decide), if_pos rfl]
    refine Rt.o (f9_lists I.ok I.mc (I.2.2.2.1.2.1 0 (by decide)) I.m3) ?_
    rintro ⟨v, σ1⟩ ⟨h1, -, -, h4⟩
    dsimp only at h1 h4
    exact Rt.s ⟨by rw [h1]; exact I.xq.2.1.1, (I.scr h4 (fun r k z => by unfold SL at z; unfold SCR; omega)).inv⟩
  · rw [if_neg (by decide), if_pos rfl, bnd_d]
    refine Rt.s ?_
    dsimp only
    unfold f_X9_worlds
    rw [bnd_d, e1, if_neg (by decide), if_neg (by decide)]
    refine Rt.o (mod_poss I) ?_
    rintro ⟨v, σ1⟩ ⟨h1, -, h3, -⟩
    exact Rt.s ⟨by rw [I.poss]; exact h1.symm, h3.inv⟩
  · rw [if_neg n0, if_neg n1]
    refine rf5 I (fun s => f_X9_worlds s p1) (fun σ1 _ _ => ?_)
    unfold f_X9_worlds
    rw [bnd_d, e1, if_pos rfl]
theorem st_world (σ : PH) (d : PD) (p1 : Int32) (hI : Inv σ d) : ∃ (u v : Int32 × PH), f_X8_world σ d p1 = some u ∧ f_X9_world u.2 p1 = some v ∧ u.1 = v.1 ∧ Inv v.2 d := by
  obtain ⟨c, r, hs, tr, sd, I⟩ := hI
  refine two (y := fun s => f_X9_world s p1) ?_
  have h92 := ps92 I
  unfold f_X8_world
  by_cases n0 : p1 < 0
  · rw [if_pos n0]
    refine rf5 I (fun s => f_X9_world s p1) (fun σ1 _ _ => ?_)
    unfold f_X9_world
    rw [if_pos n0]
  · rw [if_neg n0, bnd_d, I.poss]
    obtain ⟨k, hk, rfl⟩ := nI_of n0
    by_cases hl : k < (psC c (r 0) hs).length
    · rw [if_pos (nI_lt hl (by omega)), f2_possibleWorld I.xq.2.1 I.xq.2.2.2 I.rep hl, obd_s]
      refine Rt.s ?_
      dsimp only
      unfold f_X9_world
      rw [if_neg n0]
      refine Rt.o (mod_poss I) ?_
      rintro ⟨v, σ1⟩ ⟨h1, h2, h3, -⟩
      dsimp only at h1 h2 h3
      subst h1
      refine Rt.f (by rw [nI_leI (by omega) hk]; omega) (Rt.c (inb_nI (by omega) (by decide)) (Rt.s ⟨?_, h3.inv⟩))
      dsimp only
      rw [nI_clamp hk, h2 k hl]; rfl
    · rw [if_neg (by rw [nI_ltI hk (by omega)]; exact hl)]
      refine Rt.o (refuse_ok I (k := 5) (by decide) (by decide) (p := -5) (by decide)) ?_
      rintro ⟨v, σ1⟩ ⟨e1, I1, -⟩
      refine Rt.s ?_
      dsimp only at e1 I1 ⊢
      unfold f_X9_world
      rw [if_neg n0]
      refine Rt.o (mod_poss I1) ?_
      rintro ⟨w, σ2⟩ ⟨h1, -, h3, -⟩
      dsimp only at h1 h3
      subst h1
      refine Rt.t (nI_le (by omega) hk) (Rt.o (no_ok h3 (by decide) (by decide) (by decide)) ?_)
      rintro ⟨w, σ3⟩ ⟨e2, I2⟩
      exact Rt.s ⟨e1.trans e2.symm, I2.inv⟩
theorem f7_indexOf {L : List Nat} {h : Nat} (hL : XL c L σ h) (hl : L.length ≤ 92) (p : Int32) : Rt (f_X7_indexOf σ h p) (fun u => (∃ t, t < L.length ∧ u = nI t ∧ nI (L.getD t 0) = p) ∨ (u = -1 ∧ ∀ t, t < L.length → nI (L.getD t 0) ≠ p)) := by
  unfold f_X7_indexOf
  refine lp_acc (enc := fun (_ : Unit) i => nI i) L.length (fun _ i => ∀ x, x < i → nI (L.getD x 0) ≠ p) _ ?_ ?_ FU () 0 (Nat.zero_le _) (FU_big (by omega)) (fun x hx => absurd hx (Nat.not_lt_zero x))
  · intro rec a i hi hJ hrec
    dsimp only [b_X7_indexOf_2, bnd]
    rw [hL.1, nI_clamp (by omega), hL.2.1 i hi]
    refine Rt.f (by rw [nI_leI (by omega) (by omega)]; omega) (Rt.c (inb_nI (by omega) (by decide)) (Rt.i (fun e => Rt.s (Or.inl ⟨i, hi, rfl, e⟩)) (fun e => ?_)))
    rw [nI_1]
    refine hrec () (fun x hx => ?_)
    rcases Nat.lt_or_eq_of_le (Nat.le_of_lt_succ hx) with h | rfl
    · exact hJ x h
    · exact e
  · intro rec a hJ
    dsimp only [b_X7_indexOf_2, bnd]
    rw [hL.1]
    exact Rt.t (nI_le (Nat.le_refl _) (by omega)) (Rt.s (Or.inr ⟨rfl, hJ⟩))
theorem f9_isWorld (ok : CVok c) (hM : MC c σ) {m : Nat} (hm : gI σ 81 1 = nI m) (hm3 : m ≤ 3) (p : Int32) : (f_X9_isWorld σ p = some 1 ∧ ∃ w, w ∈ WL (cN c) m ∧ p = nI w) ∨ (f_X9_isWorld σ p = some 0 ∧ ∀ w, w ∈ WL (cN c) m → p ≠ nI w) := by
  have h9 := p2_9 ok.1
  unfold f_X9_isWorld
  rw [bnd_d]
  rcases f9_isSet ok hM p with ⟨q, hn⟩ | ⟨q, w, w0, w1, rfl⟩
  · rw [q, if_pos rfl]
    refine Or.inr ⟨rfl, fun w hw e => ?_⟩
    obtain ⟨a, -, b⟩ := WL_lt ok.1 hw
    exact hn w a b e
  · have hp := pc_le w
    rw [q, if_neg (by decide), f9_count (by omega), obd_s, hm]
    by_cases h : m < pc w
    · rw [if_pos (nI_lt h (by omega))]
      refine Or.inr ⟨rfl, fun w' hw e => ?_⟩
      obtain ⟨a, b, cc⟩ := (mem_WL ok.1).mp hw
      rw [nI_eq (by omega) (by omega)] at e
      subst e
      omega
    · rw [if_neg (by rw [nI_ltI (by omega) (by omega)]; exact h)]
      exact Or.inl ⟨rfl, w, (mem_WL ok.1).mpr ⟨w0, w1, by omega⟩, rfl⟩
theorem mem_getD {L : List Nat} {w : Nat} (h : w ∈ L) : ∃ t, t < L.length ∧ L.getD t 0 = w := by
  obtain ⟨t, ht, e⟩ := List.mem_iff_getElem.mp h
  exact ⟨t, ht, by simp [List.getD, ht, e]⟩
theorem wrW_at {L : List Nat} {s t : Nat} (h : t < L.length) : wrW c L s t = sndC c s (L.getD t 0) := by
  unfold wrW
  rw [decide_eq_true h, Bool.true_and]
theorem st_sounds (σ : PH) (d : PD) (p1 p2 : Int32) (hI : Inv σ d) : ∃ (u v : Int32 × PH), f_X8_sounds σ d p1 p2 = some u ∧ f_X9_sounds u.2 p1 p2 = some v ∧ u.1 = v.1 ∧ Inv v.2 d := by
  obtain ⟨c, r, hs, tr, sd, I⟩ := hI
  refine two (y := fun s => f_X9_sounds s p1 p2) ?_
  have ok := I.ok
  have h9 := p2_9 I.n8
  have h92 := I.xq.2.2.2
  unfold f_X8_sounds
  obtain ⟨u, hu, hP⟩ := f7_indexOf I.xq.2.1 h92 p2
  rw [hu, obd_s, bnd_d]
  rcases f0_isSet ok I.xc p1 with ⟨q, hn⟩ | ⟨q, s, s0, s1, rfl⟩
  · rw [q, if_pos rfl]
    refine rf6 I (fun s => f_X9_sounds s p1 p2) (fun σ1 I1 _ => ?_)
    unfold f_X9_sounds
    rw [bnd_d]
    rcases f9_isSet I1.ok I1.mc p1 with ⟨q9, -⟩ | ⟨-, s, s0, s1, e⟩
    · rw [q9, if_pos rfl]
    · exact absurd e (hn s s0 s1)
  · rw [q, if_neg (by decide)]
    have q9 : ∀ σ1, MC c σ1 → f_X9_isSet σ1 (nI s) = 1 := fun σ1 hM => by
      rcases f9_isSet ok hM (nI s) with ⟨-, q9⟩ | ⟨q9, -⟩
      · exact absurd rfl (q9 s s0 s1)
      · exact q9
    rcases hP with ⟨t, ht, rfl, e⟩ | ⟨rfl, hn⟩
    · rw [if_neg (nI_nm1 (by omega))]
      refine Rt.o (f7_soundOf ok I.xq s0 s1 (by omega)) ?_
      rintro ⟨v, σ1⟩ ⟨h1, h2, h3⟩
      dsimp only at h1 h2 h3
      subst h1
      refine Rt.s ?_
      dsimp only
      have I1 := I.ca h3 h2
      unfold f_X9_sounds
      have hmem := getD_mem ht
      rw [bnd_d, q9 σ1 I1.mc, if_neg (by decide)]
      rcases f9_isWorld ok I1.mc (I1.2.2.2.1.2.1 0 (by decide)) I.m3 p2 with ⟨w1, -⟩ | ⟨-, w2⟩
      · rw [w1, obd_s, if_neg (by decide), ← e, f9_soundOf ok I1.mc (by omega) (WL_lt ok.1 hmem).2.1, obd_s]
        exact Rt.s ⟨by rw [wrW_at ht], I1.inv⟩
      · exact absurd e.symm (w2 _ hmem)
    · rw [if_pos rfl]
      refine rf6 I (fun x => f_X9_sounds x (nI s) p2) (fun σ1 I1 _ => ?_)
      unfold f_X9_sounds
      rw [bnd_d, q9 σ1 I1.mc, if_neg (by decide)]
      rcases f9_isWorld ok I1.mc (I1.2.2.2.1.2.1 0 (by decide)) I.m3 p2 with ⟨-, w, hw, rfl⟩ | ⟨w1, -⟩
      · obtain ⟨t, ht, e⟩ := mem_getD hw
        exact absurd (by rw [e]) (hn t ht)
      · rw [w1, obd_s, if_pos rfl]
theorem st_known (σ : PH) (d : PD) (p1 : Int32) (hI : Inv σ d) : ∃ (u v : Int32 × PH), f_X8_known σ d p1 = some u ∧ f_X9_known u.2 p1 = some v ∧ u.1 = v.1 ∧ Inv v.2 d := by
  obtain ⟨c, r, hs, tr, sd, I⟩ := hI
  refine two (y := fun s => f_X9_known s p1) ?_
  have h16 := I.2.1.2.2.1
  have x4 : gI σ d.1 4 = nI hs.length := I.2.2.1.2.1.2.1.1
  have m5 : ∀ {j : Nat} {σ1 : PH}, InA j c r hs tr sd σ1 d → gI σ1 81 5 = nI hs.length := fun I => I.2.2.2.1.2.2.1.1
  unfold f_X8_known
  by_cases n : p1 = -1
  · rw [if_pos n]
    refine Rt.s ?_
    dsimp only
    unfold f_X9_known
    rw [if_pos n]
    exact Rt.s ⟨by rw [x4]; exact (m5 I).symm, I.inv⟩
  · rw [if_neg n]
    by_cases n0 : p1 < 0
    · rw [if_pos n0]
      refine rf5 I (fun s => f_X9_known s p1) (fun σ1 _ _ => ?_)
      unfold f_X9_known
      rw [if_neg n, if_pos n0]
    · rw [if_neg n0]
      obtain ⟨k, hk, rfl⟩ := nI_of n0
      rw [x4]
      by_cases hl : k < hs.length
      · rw [if_pos (nI_lt hl (by omega)), chk_t (inb_nI (by omega) (by decide))]
        refine Rt.s ?_
        dsimp only
        unfold f_X9_known
        obtain ⟨a, b⟩ := I.2.2.2.1.2.2.1.2 k hl
        rw [if_neg n, if_neg n0, m5 I, if_neg (by rw [nI_leI (by omega) hk]; omega), chk_t (inb_nI (by omega) (by decide)), chk_t (inb_nI (by omega) (by decide)), nI_clamp hk, a, b]
        refine Rt.s ⟨?_, I.inv⟩
        dsimp only
        rw [I.2.2.1.2.1.2.1.2 k hl, i_2, pk_mul, nI_add]
      · rw [if_neg (by rw [nI_ltI hk (by omega)]; exact hl)]
        refine rf5 I (fun s => f_X9_known s _) (fun σ1 I1 _ => ?_)
        unfold f_X9_known
        rw [if_neg n, if_neg n0, m5 I1, if_pos (nI_le (by omega) hk)]
theorem HVnil (v : HV c r hs) : HV c r [] := HV.nil v.1 v.2.1
theorem st_forget (σ : PH) (d : PD) (hI : Inv σ d) : ∃ (u v : Int32 × PH), f_X8_forget σ d = u ∧ f_X9_forget u.2 = v ∧ u.1 = v.1 ∧ Inv v.2 d := by
  obtain ⟨c, r, hs, tr, sd, I⟩ := hI
  obtain ⟨t, ht, hT⟩ := I.2.2.1.2.2.1
  have hd := I.1.1
  obtain ⟨X1, F1⟩ := f2_forgetAll I.xq ⟨I.2.2.1.2.1.1, I.2.2.1.2.1.2.2⟩ ht hT
  refine ⟨_, _, rfl, rfl, ?_, ?_⟩
  · unfold f_X8_forget f_X9_forget
    dsimp only [bnd]
    rw [F1.I (by unfold Hls at hd; omega)]
    exact I.2.2.1.2.1.2.1.1.trans I.2.2.2.1.2.2.1.1.symm
  · unfold f_X8_forget f_X9_forget
    dsimp only [bnd]
    have F2 : Fr (fun r k => r = 81 ∧ k = 5) (f_X2_forgetAll σ d.1) (putI (f_X2_forgetAll σ d.1) 81 5 0) := Fr.pI ⟨rfl, rfl⟩
    have a5 : gI (putI (f_X2_forgetAll σ d.1) 81 5 0) 81 5 = nI 0 := gI_put_eq
    generalize f_X2_forgetAll σ d.1 = σ1 at *
    generalize putI σ1 81 5 0 = σ2 at *
    have M := I.2.2.2.1
    have FF : Fr (fun r k => (r = d.1 ∧ (k = 4 ∨ k = 7 ∨ k = 8)) ∨ (r = 81 ∧ k = 5)) σ σ2 := (F1.mono (fun r k z => Or.inl z)).tr (F2.mono (fun r k z => Or.inr z))
    refine (I.mk' FF (fun r k z => by unfold WH WM; omega) (HVnil I.2.1) (Nat.le_refl _) (X1.fr F2 (fun r k z => by unfold Hls at hd; omega)) (tr' := tr) (sd' := sd) ⟨M.1.fr FF (fun r k z => by unfold Hls at hd; omega), fun k hk => ?_, ⟨a5, fun k hk => absurd hk (Nat.not_lt_zero k)⟩, ?_, ?_⟩).inv
    · rw [FF.I (by unfold Hls at hd; omega)]; exact M.2.1 k hk
    · rw [FF.I (by unfold Hls at hd; omega)]; exact M.2.2.2.1
    · rw [FF.I (by unfold Hls at hd; omega)]; exact M.2.2.2.2
theorem st_lawful (σ : PH) (d : PD) (p1 : Int32) (hI : Inv σ d) : ∃ (u v : Int32), f_X8_lawful σ d p1 = some u ∧ f_X9_lawful σ p1 = some v ∧ u = v ∧ Inv σ d := by
  obtain ⟨c, r, hs, tr, sd, I⟩ := id hI
  have ok := I.ok
  have hr := I.2.1.2.1
  have T := I.2.2.1.2.1.1
  have M := I.2.2.2.1.2.1
  unfold f_X8_lawful f_X9_lawful
  rcases f2_allows_all ok I.xc (T 1 (by decide)) (by omega) (T 2 (by decide)) (by omega) p1 with ⟨a, b⟩ | ⟨s, rfl, s0, s1, hl, a⟩
  · rcases f9_isLawful_all ok I.mc (M 1 (by decide)) (by omega) (M 2 (by decide)) (by omega) p1 with ⟨a9, -⟩ | ⟨s, rfl, s0, s1, hl, -⟩
    · exact ⟨0, 0, by rw [a, obd_s, if_pos rfl], by rw [a9, obd_s, if_pos rfl], rfl, hI⟩
    · have h9 := p2_9 I.n8
      have := b s rfl (by omega)
      rw [this] at hl
      cases hl
  · rw [a, f9_isLawful ok I.mc (M 1 (by decide)) (by omega) (M 2 (by decide)) (by omega) s0 s1, hl]
    exact ⟨1, 1, rfl, rfl, rfl, hI⟩
theorem st_seed (σ : PH) (d : PD) (p1 : Int32) (hI : Inv σ d) : ∃ (u v : Int32 × PH), f_X8_seed σ d p1 = u ∧ f_X9_seed u.2 p1 = v ∧ u.1 = v.1 ∧ Inv v.2 d := by
  obtain ⟨c, r, hs, tr, sd, I⟩ := hI
  have hd := I.1.1
  refine ⟨_, _, rfl, rfl, ?_, ?_⟩
  · unfold f_X8_seed f_X9_seed
    dsimp only [bnd]
    rw [gI_put_ne (by unfold Hls at hd; omega)]
    exact I.2.2.1.2.1.2.2.trans I.2.2.2.1.2.2.2.2.symm
  · unfold f_X8_seed f_X9_seed
    dsimp only [bnd]
    have F : Fr (fun r k => (r = d.1 ∧ k = 5) ∨ (r = 81 ∧ k = 7)) σ (putI (putI σ d.1 5 p1) 81 7 p1) := (Fr.pI (by omega)).tr (Fr.pI (by omega))
    have a5 : gI (putI (putI σ d.1 5 p1) 81 7 p1) d.1 5 = p1 := by rw [gI_put_ne (by unfold Hls at hd; omega), gI_put_eq]
    have a7 : gI (putI (putI σ d.1 5 p1) 81 7 p1) 81 7 = p1 := gI_put_eq
    generalize putI (putI σ d.1 5 p1) 81 7 p1 = σ1 at *
    obtain ⟨Xq, Xt, Xtr, Xr⟩ := I.2.2.1
    have M := I.2.2.2.1
    refine (I.mk' F (fun r k z => by unfold WH WM; omega) I.2.1 (Nat.le_refl _) (tr' := tr) (sd' := p1) ⟨Xq.fr F (fun r k z => by unfold Hls at hd; omega), ⟨fun k hk => ?_, ⟨?_, fun k hk => ?_⟩, a5⟩, ?_, ?_⟩ ⟨M.1.fr F (fun r k z => by unfold Hls at hd; omega), fun k hk => ?_, ⟨?_, fun k hk => ⟨?_, ?_⟩⟩, ?_, a7⟩).inv
    · rw [F.I (by unfold Hls at hd; omega)]; exact Xt.1 k hk
    · rw [F.I (by unfold Hls at hd; omega)]; exact Xt.2.1.1
    · rw [F.I (by unfold Hls at hd; omega)]; exact Xt.2.1.2 k hk
    · rw [F.I (by unfold Hls at hd; omega)]; exact Xtr
    · rw [F.J (by unfold Hls at hd; omega), F.J (by unfold Hls at hd; omega)]; exact Xr
    · rw [F.I (by unfold Hls at hd; omega)]; exact M.2.1 k hk
    · rw [F.I (by unfold Hls at hd; omega)]; exact M.2.2.1.1
    · rw [F.I (by unfold Hls at hd; omega)]; exact (M.2.2.1.2 k hk).1
    · rw [F.I (by unfold Hls at hd; omega)]; exact (M.2.2.1.2 k hk).2
    · rw [F.I (by unfold Hls at hd; omega)]; exact M.2.2.2.1
theorem st_singer (σ : PH) (d : PD) (p1 p2 p3 : Int32) (hI : Inv σ d) : ∃ (u v : Int32 × PH), f_X8_singer σ d p1 p2 p3 = some u ∧ f_X9_singer u.2 p1 p2 p3 = some v ∧ u.1 = v.1 ∧ Inv v.2 d := by
  obtain ⟨c, r, hs, tr, sd, I⟩ := hI
  have n8 := I.n8
  have hd := I.1.1
  refine two (y := fun s => f_X9_singer s p1 p2 p3) ?_
  unfold f_X8_singer f_X0_isKind f_X0_isA f_X0_isOdds f_X0_hasRoom
  rw [bnd_d, bnd_d, bnd_d, bnd_d, I.xc.1]
  have hY : ∀ σ1, f_X9_singer σ1 p1 p2 p3 = if p1 < 0 then (obd (f_X9_no σ1 (-1)) fun u2 => some (u2.1, u2.2)) else (if p1 ≤ 6 then (if p2 < 0 then (obd (f_X9_no σ1 (-6)) fun u5 => some (u5.1, u5.2)) else (if 9 < p2 then (obd (f_X9_no σ1 (-6)) fun u7 => some (u7.1, u7.2)) else (if p3 < 1 then (obd (f_X9_no σ1 (-6)) fun u9 => some (u9.1, u9.2)) else (if p3 ≤ 9 then (if (gI σ1 81 0) = 8 then (obd (f_X9_no σ1 (-7)) fun u13 => some (u13.1, u13.2)) else (obd (f_X9_adds σ1 p1 p2 p3) fun u12 => some (u12.1, u12.2))) else (obd (f_X9_no σ1 (-6)) fun u14 => some (u14.1, u14.2)))))) else (obd (f_X9_no σ1 (-1)) fun u15 => some (u15.1, u15.2))) := fun σ1 => rfl
  have le_of : ∀ {x : Int32} {n : Nat}, n < 2 ^ 31 → ¬ nI n < x → x ≤ nI n := fun {x n} hn h => by
    rw [Int32.lt_iff_toInt_lt] at h; rw [Int32.le_iff_toInt_le]; omega
  have nle_of : ∀ {x : Int32} {n : Nat}, n < 2 ^ 31 → nI n < x → ¬ x ≤ nI n := fun {x n} hn h => by
    rw [Int32.lt_iff_toInt_lt] at h; rw [Int32.le_iff_toInt_le]; omega
  rcases i_between p1 0 6 (by decide) (by decide) with ⟨k, -, hk, rfl, k1, k2⟩ | ⟨kn | ⟨k1, k2⟩, -⟩
  · have k3 : nI k ≤ 6 := le_of (n := 6) (by decide) k2
    have k1 : ¬ nI k < 0 := k1
    have k2 : ¬ (6 : Int32) < nI k := k2
    rw [if_neg k1, if_neg (show ¬ (6 : Int32) < nI k from k2), if_neg (by decide)]
    rcases i_between p2 0 9 (by decide) (by decide) with ⟨a, -, ha, rfl, a1, a2⟩ | ⟨an | ⟨a1, a2⟩, -⟩
    · have a1 : ¬ nI a < 0 := a1
      have a2 : ¬ (9 : Int32) < nI a := a2
      rw [if_neg a1, if_neg (show ¬ (9 : Int32) < nI a from a2), if_neg (by decide)]
      rcases i_between p3 1 9 (by decide) (by decide) with ⟨o, o0, ho, rfl, o1, o2⟩ | ⟨on | ⟨o1, o2⟩, -⟩
      · have o3 : nI o ≤ 9 := le_of (n := 9) (by decide) o2
        have o1 : ¬ nI o < 1 := o1
        have o2 : ¬ (9 : Int32) < nI o := o2
        rw [if_neg (show ¬ nI o < 1 from o1), if_neg (show ¬ (9 : Int32) < nI o from o2), if_neg (by decide)]
        by_cases e : cN c = 8
        · rw [if_pos (show (8 : Int32) ≤ nI (cN c) by rw [e, i_8]; exact nI_le (Nat.le_refl _) (by decide)), if_pos rfl]
          refine rf7 I (fun s => f_X9_singer s _ _ _) (fun σ1 I1 _ => ?_)
          rw [hY, if_neg k1, if_pos k3, if_neg a1, if_neg a2, if_neg o1, if_pos o3, I1.mc.1, e, if_pos (show nI 8 = 8 from rfl)]
        · have h7 : cN c < 8 := by omega
          rw [if_neg (show ¬ (8 : Int32) ≤ nI (cN c) by rw [i_8, nI_leI (by decide) (by omega)]; omega), if_neg (by decide)]
          refine Rt.o (f2_join I.2.1 I.2.2.1 h7 hk ha o0 ho) ?_
          rintro σ1 ⟨X1, F1⟩
          refine Rt.s ?_
          dsimp only
          have M1 : MHl c r hs tr sd σ1 := I.2.2.2.1.fr F1 (fun r k z => by unfold WH at z; unfold WM; unfold Hls at hd; omega)
          rw [hY, if_neg k1, if_pos k3, if_neg a1, if_neg a2, if_neg o1, if_pos o3, M1.1.1, if_neg (show ¬ nI (cN c) = 8 by rw [i_8, nI_eq (by omega) (by decide)]; exact e)]
          refine Rt.o (f9_adds I.ok M1 h7 hk ha o0 ho) ?_
          rintro ⟨v, σ2⟩ ⟨e1, M2, F2⟩
          dsimp only at e1 M2 F2
          have X2 : XH (adC c k a o) r [] (tr0 (cN c + 1)) sd σ2 d.1 := X1.fr F2 (fun r k z => by unfold WM at z; unfold Hls at hd; omega)
          refine Rt.s ⟨?_, (I.mk' ((F1.mono (V := fun r k => WH d.1 r k ∨ WM r k) (fun r k z => Or.inl z)).tr (F2.mono (fun r k z => Or.inr z))) (fun r k z => Or.inr z) (HV.nil (adC_ok I.ok h7 hk ha o0 ho) I.2.1.2.1) (Nat.le_succ _) X2 M2).inv⟩
          dsimp only
          rw [X1.1.1.1, e1]
          exact nI_pred (cN c)
      · rw [if_pos (show p3 < 1 from on), if_pos rfl]
        refine rf6 I (fun s => f_X9_singer s _ _ _) (fun σ1 _ _ => ?_)
        rw [hY, if_neg k1, if_pos k3, if_neg a1, if_neg a2, if_pos (show p3 < 1 from on)]
      · rw [if_neg (show ¬ p3 < 1 from o1), if_pos (show (9 : Int32) < p3 from o2), if_pos rfl]
        refine rf6 I (fun s => f_X9_singer s _ _ _) (fun σ1 _ _ => ?_)
        rw [hY, if_neg k1, if_pos k3, if_neg a1, if_neg a2, if_neg (show ¬ p3 < 1 from o1), if_neg (show ¬ p3 ≤ 9 from nle_of (n := 9) (by decide) o2)]
    · rw [if_pos (show p2 < 0 from an), if_pos rfl]
      refine rf6 I (fun s => f_X9_singer s _ _ _) (fun σ1 _ _ => ?_)
      rw [hY, if_neg k1, if_pos k3, if_pos (show p2 < 0 from an)]
    · rw [if_neg (show ¬ p2 < 0 from a1), if_pos (show (9 : Int32) < p2 from a2), if_pos rfl]
      refine rf6 I (fun s => f_X9_singer s _ _ _) (fun σ1 _ _ => ?_)
      rw [hY, if_neg k1, if_pos k3, if_neg (show ¬ p2 < 0 from a1), if_pos (show (9 : Int32) < p2 from a2)]
  · rw [if_pos (show p1 < 0 from kn), if_pos rfl]
    refine rf1 I (fun s => f_X9_singer s _ _ _) (fun σ1 _ _ => ?_)
    rw [hY, if_pos (show p1 < 0 from kn)]
  · rw [if_neg (show ¬ p1 < 0 from k1), if_pos (show (6 : Int32) < p1 from k2), if_pos rfl]
    refine rf1 I (fun s => f_X9_singer s _ _ _) (fun σ1 _ _ => ?_)
    rw [hY, if_neg (show ¬ p1 < 0 from k1), if_neg (show ¬ p1 ≤ 6 from nle_of (n := 6) (by decide) k2)]
theorem st_ask (σ : PH) (d : PD) (p1 p2 : Int32) (hI : Inv σ d) : ∃ (u v : Int32 × PH), f_X8_ask σ d p1 p2 = some u ∧ f_X9_ask u.2 p1 p2 = some v ∧ u.1 = v.1 ∧ Inv v.2 d := by
  obtain ⟨c, r, hs, tr, sd, I⟩ := hI
  have hd := I.1.1
  refine two (y := fun s => f_X9_ask s p1 p2) ?_
  unfold f_X8_ask
  rcases suits_spec p1 p2 with ⟨e, hq⟩ | ⟨w, v, rfl, rfl, hw4, hw, e, e9⟩
  · rw [e, obd_s, if_pos rfl]
    refine rf6 I (fun s => f_X9_ask s p1 p2) (fun σ1 _ _ => ?_)
    unfold f_X9_ask
    rcases hq with q | ⟨q1, q2⟩ | ⟨q1, q2, q3⟩
    · rw [if_pos q]
    · rw [if_neg q1, if_pos q2]
    · rw [if_neg q1, if_neg q2, bnd_d, q3, if_pos rfl]
  · rw [e, obd_s, if_neg (by decide)]
    have er : f_X2_rule σ d.1 (nI w) = some (nI (r w)) := by
      unfold f_X2_rule
      rw [if_neg (nI_nlt0 (by omega)), if_neg (show ¬ (4 : Int32) ≤ nI w by rw [i_4, nI_leI (by decide) (by omega)]; omega), chk_t (inb_nI hw4 (by decide)), nI_clamp (by omega), I.2.2.1.2.1.1 w hw4]
    rw [er, obd_s]
    refine Rt.o (f2_put I.2.1 I.2.2.1 hw4 hw e) ?_
    rintro σ1 ⟨X0, X1, F1⟩
    refine Rt.s ?_
    dsimp only
    have M1 : MHl c r hs tr sd σ1 := I.2.2.2.1.fr F1 (fun r k z => by unfold WH at z; unfold WM; unfold Hls at hd; omega)
    unfold f_X9_ask
    rw [if_neg (nI_nlt0 (by omega)), if_neg (show ¬ (3 : Int32) < nI w by rw [i_3, nI_ltI (by decide) (by omega)]; omega), bnd_d, e9, if_neg (by decide), bnd_d]
    obtain ⟨a1, a2, a3, F2⟩ := f9_asks (v := v) I.ok M1 hw4
    refine Rt.s ⟨a1.symm, ?_⟩
    dsimp only
    have FX : ∀ r k, WM r k → ¬ (d.1 ≤ r ∧ r ≤ d.1 + 16) := fun r k z => by unfold WM at z; unfold Hls at hd; omega
    have FF := (F1.mono (V := fun r k => WH d.1 r k ∨ WM r k) (fun r k z => Or.inl z)).tr (F2.mono (fun r k z => Or.inr z))
    have hv := HV.nil I.ok (rsR_ok I.2.1.2.1 hw)
    by_cases e0 : w = 0
    · subst e0
      exact (I.mk' FF (fun r k z => Or.inr z) hv (Nat.le_refl _) ((X0 rfl).fr F2 FX) (a2 rfl)).inv
    · exact (I.mk' FF (fun r k z => Or.inr z) ⟨I.ok, rsR_ok I.2.1.2.1 hw, I.2.1.2.2⟩ (Nat.le_refl _) ((X1 e0).fr F2 FX) (a3 e0)).inv
theorem st_swap (σ : PH) (d : PD) (p1 p2 : Int32) (hI : Inv σ d) : ∃ (u v : Int32 × PH), f_X8_swap σ d p1 p2 = some u ∧ f_X9_swap u.2 p1 p2 = some v ∧ u.1 = v.1 ∧ Inv v.2 d := by
  obtain ⟨c, r, hs, tr, sd, I⟩ := hI
  have hd := I.1.1
  have n8 := I.n8
  refine two (y := fun s => f_X9_swap s p1 p2) ?_
  unfold f_X8_swap
  rw [bnd_d]
  have s9 : ∀ {x : Nat} {σ1 : PH}, MC c σ1 → x < cN c → f_X9_isSinger σ1 (nI x) = 1 := fun {x σ1} hM hx => by
    rcases f9_isSinger I.ok hM (nI x) with ⟨-, q⟩ | ⟨q, -⟩
    · exact absurd rfl (q x hx)
    · exact q
  have n9 : ∀ {p : Int32} {σ1 : PH}, MC c σ1 → (∀ x, x < cN c → p ≠ nI x) → f_X9_isSinger σ1 p = 0 := fun {p σ1} hM hn => by
    rcases f9_isSinger I.ok hM p with ⟨q, -⟩ | ⟨-, x, hx, e⟩
    · exact q
    · exact absurd e (hn x hx)
  rcases f0_has I.ok I.xc p1 with ⟨q, hn⟩ | ⟨q, x, hx, rfl⟩
  · rw [q, if_pos rfl]
    refine rf1 I (fun s => f_X9_swap s p1 p2) (fun σ1 I1 _ => ?_)
    unfold f_X9_swap
    rw [bnd_d, n9 I1.mc hn, if_pos rfl]
  · rw [q, if_neg (by decide), bnd_d]
    rcases f0_has I.ok I.xc p2 with ⟨q2, hn⟩ | ⟨q2, y, hy, rfl⟩
    · rw [q2, if_pos rfl]
      refine rf1 I (fun s => f_X9_swap s _ p2) (fun σ1 I1 _ => ?_)
      unfold f_X9_swap
      rw [bnd_d, s9 I1.mc hx, if_neg (by decide), bnd_d, n9 I1.mc hn, if_pos rfl]
    · rw [q2, if_neg (by decide)]
      by_cases e : x = y
      · subst e
        rw [if_pos rfl]
        refine rf6 I (fun s => f_X9_swap s _ _) (fun σ1 I1 _ => ?_)
        unfold f_X9_swap
        rw [bnd_d, s9 I1.mc hx, if_neg (by decide), bnd_d, if_neg (by decide), if_pos rfl]
      · have ne : ¬ nI x = nI y := by rw [nI_eq (by omega) (by omega)]; exact e
        rw [if_neg ne]
        refine Rt.o (f2_changePlaces I.2.1 I.2.2.1 hx hy) ?_
        rintro σ1 ⟨X1, F1⟩
        refine Rt.s ?_
        dsimp only
        have M1 : MHl c r hs tr sd σ1 := I.2.2.2.1.fr F1 (fun r k z => by unfold WH at z; unfold WM; unfold Hls at hd; omega)
        unfold f_X9_swap
        rw [bnd_d, s9 M1.1 hx, if_neg (by decide), bnd_d, s9 M1.1 hy, if_neg (by decide), if_neg ne]
        refine Rt.o (f9_changes I.ok M1.1 hx hy) ?_
        rintro σ2 ⟨hC2, F2⟩
        dsimp only [bnd]
        obtain ⟨M3, F3⟩ := f9_anew (r := r) (sd := sd) (swC_ok I.ok hx hy) hC2 (fun k hk => by rw [F2.I (by omega)]; exact M1.2.1 k hk) (by rw [F2.I (by omega)]; exact M1.2.2.2.2)
        have F23 : Fr WM σ1 (f_X9_anew σ2) := (F2.mono (fun r k z => by unfold WM; omega)).tr (F3.mono (fun r k z => by unfold WM; omega))
        refine Rt.s ⟨rfl, (I.mk' ((F1.mono (V := fun r k => WH d.1 r k ∨ WM r k) (fun r k z => Or.inl z)).tr (F23.mono (fun r k z => Or.inr z))) (fun r k z => Or.inr z) (HV.nil (swC_ok I.ok hx hy) I.2.1.2.1) (Nat.le_refl _) (X1.fr F23 (fun r k z => by unfold WM at z; unfold Hls at hd; omega)) M3).inv⟩
end Q1
