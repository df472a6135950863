section T1
variable {j : Nat} {c : CV} {r : Nat → Nat} {hs : HS} {tr : Nat} {sd : Int32} {σ σ' : PH} {d : PD}
theorem trueWorld_ok (I : InA j c r hs tr sd σ d) : f_X2_trueWorld σ d.1 = some (nI tr) := by
  have h92 := I.xq.2.2.2
  obtain ⟨t, ht, hT⟩ := I.2.2.1.2.2.1
  unfold f_X2_trueWorld
  rw [ht, I.xq.2.1.1]
  rcases hT with ⟨hL, rfl, rfl⟩ | ⟨hl, e⟩
  · rw [if_neg (nI_nlt0 (by decide)), hL, if_pos (show nI ([] : List Nat).length ≤ nI 0 from nI_le (Nat.le_refl _) (by decide))]; rfl
  · rw [if_neg (nI_nlt0 (by omega)), if_neg (by rw [nI_leI (by omega) (by omega)]; omega), chk_t (inb_nI (by omega) (by decide)), nI_clamp (by omega), I.xq.2.1.2.1 t hl, e]
theorem st_isTrue (σ : PH) (d : PD) (p1 : Int32) (hI : Inv σ d) : ∃ (u v : Int32 × PH), f_X8_isTrue σ d p1 = some u ∧ f_X9_isTrue u.2 p1 = some v ∧ u.1 = v.1 ∧ Inv v.2 d := by
  obtain ⟨c, r, hs, tr, sd, I⟩ := hI
  have hd := I.1.1
  refine two (y := fun s => f_X9_isTrue s p1) ?_
  have h92 := I.xq.2.2.2
  unfold f_X8_isTrue
  obtain ⟨u, hu, hP⟩ := f7_indexOf I.xq.2.1 h92 p1
  rw [hu, obd_s]
  rcases hP with ⟨t, ht, rfl, e⟩ | ⟨rfl, hn⟩
  · rw [if_neg (nI_nm1 (by omega)), trueWorld_ok I, obd_s, bnd_d]
    refine Rt.s ?_
    dsimp only
    obtain ⟨X1, F1⟩ := f2_makeTrue (tr := (WL (cN c) (r 0)).getD t 0) I.xq ⟨I.2.2.1.2.1.1, I.2.2.1.2.1.2.2⟩ (Or.inr ⟨ht, rfl⟩)
    have M1 : MHl c r hs tr sd (f_X2_makeTrue σ d.1 (nI t)) := I.2.2.2.1.fr F1 (fun r k z => by unfold WM; unfold Hls at hd; omega)
    generalize f_X2_makeTrue σ d.1 (nI t) = σ1 at *
    unfold f_X9_isTrue
    rcases f9_isWorld I.ok M1.1 (M1.2.1 0 (by decide)) I.m3 p1 with ⟨w1, -⟩ | ⟨-, w2⟩
    · rw [w1, obd_s, if_neg (by decide), bnd_d, bnd_d, bnd_d, M1.2.2.2.1, ← e]
      have F2 : Fr (fun r k => r = 81 ∧ (k = 5 ∨ k = 6)) σ1 (putI (putI σ1 81 6 (nI ((WL (cN c) (r 0)).getD t 0))) 81 5 0) := (Fr.pI (by omega)).tr (Fr.pI (by omega))
      refine Rt.s ⟨rfl, ?_⟩
      dsimp only
      refine (I.mk' ((F1.mono (V := fun r k => WH d.1 r k ∨ WM r k) (fun r k z => Or.inl (by unfold WH; omega))).tr (F2.mono (fun r k z => Or.inr (by unfold WM; omega)))) (fun r k z => Or.inr z) (HVnil I.2.1) (Nat.le_refl _) (X1.fr F2 (fun r k z => by unfold Hls at hd; omega)) (tr' := (WL (cN c) (r 0)).getD t 0) (sd' := sd) ⟨M1.1.fr F2 (fun r k z => by omega), fun k hk => ?_, ⟨gI_put_eq, fun k hk => absurd hk (Nat.not_lt_zero k)⟩, ?_, ?_⟩).inv
      · rw [F2.I (by omega)]; exact M1.2.1 k hk
      · rw [gI_put_ne (by omega), gI_put_eq]
      · rw [F2.I (by omega)]; exact M1.2.2.2.2
    · exact absurd e.symm (w2 _ (getD_mem ht))
  · rw [if_pos rfl]
    refine rf6 I (fun s => f_X9_isTrue s p1) (fun σ1 I1 _ => ?_)
    unfold f_X9_isTrue
    rcases f9_isWorld I.ok I1.mc (I1.2.2.2.1.2.1 0 (by decide)) I.m3 p1 with ⟨-, w, hw, rfl⟩ | ⟨w1, -⟩
    · obtain ⟨t, ht, e⟩ := mem_getD hw
      exact absurd (by rw [e]) (hn t ht)
    · rw [w1, obd_s, if_pos rfl]
theorem learn_no {hs : HS} {s y : Nat} (hk : knC hs s y = true) : lrC hs s y = hs := if_pos (Or.inl hk)
theorem learn_yes {hs : HS} {s y : Nat} (hk : knC hs s y = false) (hl : hs.length < 16) : lrC hs s y = hs ++ [(s, y)] := if_neg (by rw [hk]; rintro (z | z); cases z; omega)
/-- what is learnt on both sides -/
theorem learnt (I : InA j c r hs tr sd σ d) {s y : Nat} (s0 : 0 < s) (s1 : s < 2 ^ cN c) (hy : y < 2) (hk : knC hs s y = false) (hl : hs.length < 16) (P : PH → Prop) (kk : ∀ σ1, XH c r (hs ++ [(s, y)]) tr sd σ1 d.1 → Fr (WH d.1) σ σ1 → (∀ (σ2 : PH) (W : Nat → Nat → Prop), Fr W σ1 σ2 → (∀ r k, W r k → WM r k) → MHl c r (hs ++ [(s, y)]) tr sd σ2 → InA j c r (hs ++ [(s, y)]) tr sd σ2 d) → P σ1) : Rt (f_X2_learn σ d.1 (nI s) (nI y)) P := by
  have hd := I.1.1
  refine (f2_learn I.2.1 I.2.2.1 s0 s1 hy).m ?_
  rintro σ1 ⟨X1, F1⟩
  rw [learn_yes hk hl] at X1
  refine kk σ1 X1 F1 (fun σ2 W F2 hW M2 => ?_)
  refine I.mk' ((F1.mono (V := fun r k => WH d.1 r k ∨ WM r k) (fun r k z => Or.inl z)).tr (F2.mono (fun r k z => Or.inr (hW r k z)))) (fun r k z => Or.inr z) ⟨I.ok, I.2.1.2.1, HSok_snoc I.2.1.2.2 hl s0 s1 hy⟩ (Nat.le_refl _) (X1.fr F2 (fun r k z => ?_)) M2
  have := hW r k z
  unfold WM at this
  unfold Hls at hd
  omega
theorem f9_mayBe (I : InA j c r hs tr sd σ d) {s y : Nat} (hs' : s < 256) (hy : y < 2) : Rt (f_X9_mayBe σ (nI s) (nI y)) (fun u => u.1 = oI (decide (0 < ((psC c (r 0) hs).filter (soC c s y)).length)) ∧ InA j c r hs tr sd u.2 d ∧ Fr SP σ u.2) := by
  have h92 := ps92 I
  have hf := List.length_filter_le (soC c s y) (psC c (r 0) hs)
  unfold f_X9_mayBe
  refine Rt.o (mod_poss I) ?_
  rintro ⟨v, σ1⟩ ⟨g1, g2, I1, -, -, F1⟩
  dsimp only at g1 g2 I1 F1
  subst g1
  refine Rt.o (f9_stays I.ok I1.mc h92 (fun w hw => (psC_lt I.ok hw).2.1) hs' hy g2) ?_
  rintro ⟨v, σ2⟩ ⟨g3, -, F2⟩
  dsimp only at g3 F2
  subst g3
  have F : Fr SP σ σ2 := F1.tr (F2.mono (fun r k z => Or.inr (Or.inr z)))
  have I2 := I.scr F (SP_SCR d)
  by_cases e : 0 < ((psC c (r 0) hs).filter (soC c s y)).length
  · refine Rt.f (by rw [i_0, nI_leI (by omega) (by decide)]; omega) (Rt.s ⟨?_, I2, F⟩)
    rw [decide_eq_true e]; rfl
  · refine Rt.t (by rw [i_0, nI_leI (by omega) (by decide)]; omega) (Rt.s ⟨?_, I2, F⟩)
    rw [decide_eq_false e]; rfl
theorem canSound_ok (I : InA j c r hs tr sd σ d) {s y : Nat} (s0 : 0 < s) (s1 : s < 2 ^ cN c) (hy : y < 2) : Rt (f_X2_canSound σ d.1 (nI s) (nI y)) (fun u => u.1 = oI (decide (0 < ((psC c (r 0) hs).filter (soC c s y)).length)) ∧ InA j c r hs tr sd u.2 d) := by
  refine (f2_canSound I.ok I.xq s0 s1 hy I.rep).m ?_
  rintro ⟨v, σ1⟩ ⟨h1, h2, h3⟩
  exact ⟨h1, I.ca h3 h2⟩
theorem isKnown_8 (I : InA j c r hs tr sd σ d) {s y : Nat} (hs' : s < 256) (hy : y < 2) : f_X2_isKnown σ d.1 (nI s) (nI y) = some (oI (knC hs s y)) :=
  f2_isKnown I.2.1.2.2 I.n8 I.2.2.1.2.1.2.1.1 I.2.2.1.2.1.2.1.2 hs' hy
theorem isKnown_9 (I : InA j c r hs tr sd σ d) {s y : Nat} (hs' : s < 256) (hy : y < 2) : f_X9_isKnown σ (nI s) (nI y) = some (oI (knC hs s y)) :=
  f9_isKnown I.2.1.2.2 I.n8 I.2.2.2.1.2.2.1 hs' hy
theorem room_8 (I : InA j c r hs tr sd σ d) : f_X2_hasRoom σ d.1 = oI (decide (hs.length < 16)) := by
  have h16 := I.2.1.2.2.1
  unfold f_X2_hasRoom
  rw [I.2.2.1.2.1.2.1.1]
  by_cases h : hs.length < 16
  · rw [if_neg (show ¬ (16 : Int32) ≤ nI hs.length by rw [i_16, nI_leI (by decide) (by omega)]; omega), decide_eq_true h]; rfl
  · rw [if_pos (show (16 : Int32) ≤ nI hs.length by rw [i_16]; exact nI_le (by omega) (by omega)), decide_eq_false h]; rfl
theorem room_9 (I : InA j c r hs tr sd σ d) : gI σ 81 5 = 16 ↔ ¬ hs.length < 16 := by
  have h16 := I.2.1.2.2.1
  rw [I.2.2.2.1.2.2.1.1, i_16, nI_eq (by omega) (by decide)]; omega
theorem isSet_9 (I : InA j c r hs tr sd σ d) {s : Nat} (s0 : 0 < s) (s1 : s < 2 ^ cN c) : f_X9_isSet σ (nI s) = 1 := by
  rcases f9_isSet I.ok I.mc (nI s) with ⟨-, q9⟩ | ⟨q9, -⟩
  · exact absurd rfl (q9 s s0 s1)
  · exact q9
theorem isSet_9n (I : InA j c r hs tr sd σ d) {p : Int32} (hn : ∀ s, 0 < s → s < 2 ^ cN c → p ≠ nI s) : f_X9_isSet σ p = 0 := by
  rcases f9_isSet I.ok I.mc p with ⟨q9, -⟩ | ⟨-, s, s0, s1, e⟩
  · exact q9
  · exact absurd e (hn s s0 s1)
theorem st_heard (σ : PH) (d : PD) (p1 p2 : Int32) (hI : Inv σ d) : ∃ (u v : Int32 × PH), f_X8_heard σ d p1 p2 = some u ∧ f_X9_heard u.2 p1 p2 = some v ∧ u.1 = v.1 ∧ Inv v.2 d := by
  obtain ⟨c, r, hs, tr, sd, I⟩ := hI
  have hd := I.1.1
  refine two (y := fun s => f_X9_heard s p1 p2) ?_
  have h9 := p2_9 I.n8
  unfold f_X8_heard
  rw [bnd_d]
  rcases f0_isSet I.ok I.xc p1 with ⟨q, hn⟩ | ⟨q, s, s0, s1, rfl⟩
  · rw [q, if_pos rfl]
    refine rf6 I (fun s => f_X9_heard s p1 p2) (fun σ1 I1 _ => ?_)
    unfold f_X9_heard
    rw [bnd_d, isSet_9n I1 hn, if_pos rfl]
  · rw [q, if_neg (by decide)]
    have s256 : s < 256 := by omega
    by_cases hy : p2 < 0 ∨ ¬ p2 ≤ 1
    · have e8 : f_X2_canSound σ d.1 (nI s) p2 = some (0, σ) := by
        unfold f_X2_canSound
        rcases hy with h | h
        · rw [if_pos h]
        · by_cases h0 : p2 < 0
          · rw [if_pos h0]
          · rw [if_neg h0, if_neg h]
      have e9 : f_X9_isOne p2 = 0 := by
        rcases one_i p2 with ⟨rfl, -⟩ | ⟨rfl, -⟩ | ⟨-, -, e⟩
        · rcases hy with h | h
          · exact absurd h (by decide)
          · exact absurd (by decide) h
        · rcases hy with h | h
          · exact absurd h (by decide)
          · exact absurd (by decide) h
        · exact e
      rw [e8, obd_s, if_pos rfl]
      refine rf6 I (fun x => f_X9_heard x (nI s) p2) (fun σ1 I1 _ => ?_)
      unfold f_X9_heard
      rw [bnd_d, isSet_9 I1 s0 s1, if_neg (by decide), bnd_d, e9, if_pos rfl]
    · obtain ⟨y, hy1, rfl⟩ := nI_of2 (x := p2) (M := 1) (n := 1) rfl (fun z => hy (Or.inl z)) (by
        by_cases h : p2 ≤ 1
        · exact h
        · exact absurd (Or.inr h) hy)
      have hy2 : y < 2 := by omega
      have e9 : f_X9_isOne (nI y) = 1 := by
        rcases (show y = 0 ∨ y = 1 by omega) with rfl | rfl <;> rfl
      refine Rt.o (canSound_ok I s0 s1 hy2) ?_
      rintro ⟨v, σ1⟩ ⟨h1, I1⟩
      dsimp only at h1 I1
      subst h1
      by_cases hm : 0 < ((psC c (r 0) hs).filter (soC c s y)).length
      · rw [decide_eq_true hm]
        refine Rt.f (show ¬ oI true = 0 by decide) ?_
        rw [isKnown_8 I1 s256 hy2, obd_s]
        cases hk : knC hs s y with
        | true =>
          refine Rt.f (by decide) ?_
          unfold j_X8_heard_62
          refine Rt.o (f2_learn I1.2.1 I1.2.2.1 s0 s1 hy2) ?_
          rintro σ2 ⟨X2, F2⟩
          rw [learn_no hk] at X2
          have M2 : MHl c r hs tr sd σ2 := I1.2.2.2.1.fr F2 (fun r k z => by unfold WH at z; unfold WM; unfold Hls at hd; omega)
          have I2 : InA 0 c r hs tr sd σ2 d := I1.mk' F2 (fun r k z => Or.inr (Or.inl z)) I.2.1 (Nat.le_refl _) X2 M2
          refine Rt.s ?_
          dsimp only
          unfold f_X9_heard
          rw [bnd_d, isSet_9 I2 s0 s1, if_neg (by decide), bnd_d, e9, if_neg (by decide), I2.poss]
          refine Rt.o (f9_mayBe I2 s256 hy2) ?_
          rintro ⟨v, σ3⟩ ⟨g1, I3, -⟩
          dsimp only at g1 I3
          subst g1
          rw [decide_eq_true hm]
          refine Rt.f (show ¬ oI true = 0 by decide) ?_
          rw [isKnown_9 I3 s256 hy2, hk, obd_s]
          refine Rt.f (by decide) (Rt.o (mod_poss I3) ?_)
          rintro ⟨v, σ4⟩ ⟨g1, -, I4, -⟩
          exact Rt.s ⟨g1.symm, I4.inv⟩
        | false =>
          refine Rt.t rfl ?_
          rw [bnd_d, room_8 I1]
          by_cases hl : hs.length < 16
          · rw [decide_eq_true hl]
            refine Rt.f (by decide) ?_
            unfold j_X8_heard_62
            refine Rt.o (learnt I1 s0 s1 hy2 hk hl (fun σ2 => XH c r (hs ++ [(s, y)]) tr sd σ2 d.1 ∧ Fr (WH d.1) σ1 σ2 ∧ (∀ (σ3 : PH) (W : Nat → Nat → Prop), Fr W σ2 σ3 → (∀ r k, W r k → WM r k) → MHl c r (hs ++ [(s, y)]) tr sd σ3 → InA 0 c r (hs ++ [(s, y)]) tr sd σ3 d)) (fun σ2 a b x => ⟨a, b, x⟩)) ?_
            rintro σ2 ⟨X2, F2, kk⟩
            refine Rt.s ?_
            dsimp only
            have M2 : MHl c r hs tr sd σ2 := I1.2.2.2.1.fr F2 (fun r k z => by unfold WH at z; unfold WM; unfold Hls at hd; omega)
            have P2 : f_X2_possible σ2 d.1 = nI (psC c (r 0) (hs ++ [(s, y)])).length := by
              rw [f2_possible X2.1.2.2.2 X2.2.2.2, List.countP_eq_length_filter]; rfl
            rw [P2]
            unfold f_X9_heard
            have q9 : f_X9_isSet σ2 (nI s) = 1 := by
              rcases f9_isSet I.ok M2.1 (nI s) with ⟨-, q9⟩ | ⟨q9, -⟩
              · exact absurd rfl (q9 s s0 s1)
              · exact q9
            rw [bnd_d, q9, if_neg (by decide), bnd_d, e9, if_neg (by decide)]
            -- the reference asks before it knows: its part of the state is as it was
            have hmb : Rt (f_X9_mayBe σ2 (nI s) (nI y)) (fun u => u.1 = oI (decide (0 < ((psC c (r 0) hs).filter (soC c s y)).length)) ∧ Fr SP σ2 u.2) := by
              have h92 := ps92 I
              have hf := List.length_filter_le (soC c s y) (psC c (r 0) hs)
              unfold f_X9_mayBe
              refine Rt.o (f9_possible I.ok M2.1 (M2.2.1 0 (by decide)) I.m3 M2.2.2.1 I.2.1.2.2) ?_
              rintro ⟨v, σ3⟩ ⟨g1, g2, -, -, F3⟩
              dsimp only at g1 g2 F3
              subst g1
              refine Rt.o (f9_stays I.ok (M2.1.fr F3 (fun r k z => by unfold SP at z; omega)) h92 (fun w hw => (psC_lt I.ok hw).2.1) s256 hy2 g2) ?_
              rintro ⟨v, σ4⟩ ⟨g3, -, F4⟩
              dsimp only at g3 F4
              subst g3
              have F : Fr SP σ2 σ4 := F3.tr (F4.mono (fun r k z => Or.inr (Or.inr z)))
              exact Rt.f (by rw [i_0, nI_leI (by omega) (by decide)]; omega) (Rt.s ⟨by rw [decide_eq_true hm]; rfl, F⟩)
            refine Rt.o hmb ?_
            rintro ⟨v, σ3⟩ ⟨g1, F3⟩
            dsimp only at g1 F3
            subst g1
            rw [decide_eq_true hm]
            refine Rt.f (show ¬ oI true = 0 by decide) ?_
            have M3 : MHl c r hs tr sd σ3 := M2.fr F3 (fun r k z => by unfold SP at z; unfold WM; omega)
            rw [f9_isKnown I.2.1.2.2 I.n8 M3.2.2.1 s256 hy2, hk, obd_s]
            refine Rt.t rfl (Rt.f ?_ ?_)
            · rw [M3.2.2.1.1, i_16, nI_eq (by omega) (by decide)]; omega
            · refine Rt.o (f9_knows M3 hl s y) ?_
              rintro σ4 ⟨M4, F4⟩
              have X4 : XH c r (hs ++ [(s, y)]) tr sd σ4 d.1 := (X2.fr F3 (fun r k z => by unfold SP at z; unfold Hls at hd; omega)).fr F4 (fun r k z => by unfold Hls at hd; omega)
              have FF : Fr (fun r k => SCR d r k ∨ WH d.1 r k ∨ WM r k) σ1 σ4 := ((F2.mono (fun r k z => Or.inr (Or.inl z))).tr (F3.mono (fun r k z => Or.inl (SP_SCR d r k z)))).tr (F4.mono (fun r k z => Or.inr (Or.inr (by unfold WM; omega))))
              have I4 : InA 0 c r (hs ++ [(s, y)]) tr sd σ4 d := I1.mk' FF (fun r k z => z) ⟨I.ok, I.2.1.2.1, HSok_snoc I.2.1.2.2 hl s0 s1 hy2⟩ (Nat.le_refl _) X4 M4
              refine Rt.o (mod_poss I4) ?_
              rintro ⟨v, σ5⟩ ⟨g1, -, I5, -⟩
              exact Rt.s ⟨g1.symm, I5.inv⟩
          · rw [decide_eq_false hl]
            refine Rt.t rfl ?_
            refine Rt.o (refuse_ok I1 (k := 7) (by decide) (by decide) (p := -7) (by decide)) ?_
            rintro ⟨v, σ2⟩ ⟨e1, I2, -⟩
            refine Rt.s ?_
            dsimp only at e1 I2 ⊢
            unfold f_X9_heard
            rw [bnd_d, isSet_9 I2 s0 s1, if_neg (by decide), bnd_d, e9, if_neg (by decide)]
            refine Rt.o (f9_mayBe I2 s256 hy2) ?_
            rintro ⟨v, σ3⟩ ⟨g1, I3, -⟩
            dsimp only at g1 I3
            subst g1
            rw [decide_eq_true hm]
            refine Rt.f (show ¬ oI true = 0 by decide) ?_
            rw [isKnown_9 I3 s256 hy2, hk, obd_s]
            refine Rt.t rfl (Rt.t ((room_9 I3).mpr hl) (Rt.o (no_ok I3 (by decide) (by decide) (by decide)) ?_))
            rintro ⟨w, σ4⟩ ⟨e2, I4⟩
            exact Rt.s ⟨e1.trans e2.symm, I4.inv⟩
      · rw [decide_eq_false hm]
        refine Rt.t rfl ?_
        refine Rt.o (refuse_ok I1 (k := 6) (by decide) (by decide) (p := -6) (by decide)) ?_
        rintro ⟨v, σ2⟩ ⟨e1, I2, -⟩
        refine Rt.s ?_
        dsimp only at e1 I2 ⊢
        unfold f_X9_heard
        rw [bnd_d, isSet_9 I2 s0 s1, if_neg (by decide), bnd_d, e9, if_neg (by decide)]
        refine Rt.o (f9_mayBe I2 s256 hy2) ?_
        rintro ⟨v, σ3⟩ ⟨g1, I3, -⟩
        dsimp only at g1 I3
        subst g1
        rw [decide_eq_false hm]
        refine Rt.t rfl (Rt.o (no_ok I3 (by decide) (by decide) (by decide)) ?_)
        rintro ⟨w, σ4⟩ ⟨e2, I4⟩
        exact Rt.s ⟨e1.trans e2.symm, I4.inv⟩
theorem TR_pos {L : List Nat} {tr t : Nat} (h : TR L tr t) (hne : 0 < L.length) : t < L.length ∧ L.getD t 0 = tr := by
  rcases h with ⟨rfl, -, -⟩ | h
  · exact absurd hne (Nat.lt_irrefl 0)
  · exact h
theorem WL_pos (I : InA j c r hs tr sd σ d) {s : Nat} (s0 : 0 < s) (s1 : s < 2 ^ cN c) : 0 < (WL (cN c) (r 0)).length := by
  have n8 := I.n8
  have hn : 0 < cN c := by
    rcases Nat.eq_zero_or_pos (cN c) with h | h
    · rw [h] at s1; omega
    · exact h
  exact (WL_first (cN c) (by omega) hn (r 0) (by have := I.m3; omega) I.2.1.2.1.1).1
theorem tr_256 (I : InA j c r hs tr sd σ d) (hne : 0 < (WL (cN c) (r 0)).length) : tr < 256 := by
  obtain ⟨t, ht, hT⟩ := I.2.2.1.2.2.1
  obtain ⟨a, b⟩ := TR_pos hT hne
  rw [← b]
  exact (WL_lt I.ok.1 (getD_mem a)).2.1
theorem soundInTruth_ok (I : InA j c r hs tr sd σ d) {s : Nat} (s0 : 0 < s) (s1 : s < 2 ^ cN c) : Rt (f_X2_soundInTruth σ d.1 (nI s)) (fun u => u.1 = oI (sndC c s tr) ∧ InA j c r hs tr sd u.2 d) := by
  have h92 := I.xq.2.2.2
  obtain ⟨t, ht, hT⟩ := I.2.2.1.2.2.1
  obtain ⟨a, b⟩ := TR_pos hT (WL_pos I s0 s1)
  unfold f_X2_soundInTruth
  rw [ht]
  refine Rt.o (f7_soundOf I.ok I.xq s0 s1 (by omega)) ?_
  rintro ⟨v, σ1⟩ ⟨h1, h2, h3⟩
  refine Rt.s ⟨?_, I.ca h3 h2⟩
  dsimp only at h1 ⊢
  rw [h1, wrW_at a, b]
theorem st_hear (σ : PH) (d : PD) (p1 : Int32) (hI : Inv σ d) : ∃ (u v : Int32 × PH), f_X8_hear σ d p1 = some u ∧ f_X9_hear u.2 p1 = some v ∧ u.1 = v.1 ∧ Inv v.2 d := by
  obtain ⟨c, r, hs, tr, sd, I⟩ := hI
  have hd := I.1.1
  refine two (y := fun s => f_X9_hear s p1) ?_
  have h9 := p2_9 I.n8
  have hr := I.2.1.2.1
  have T := I.2.2.1.2.1.1
  have law9 : ∀ (σ1 : PH), MHl c r hs tr sd σ1 → ∀ (s : Nat), 0 < s → s < 2 ^ cN c → f_X9_isLawful σ1 (nI s) = some (oI (lwC c (r 1) (r 2) s)) := fun σ1 M s s0 s1 => f9_isLawful I.ok M.1 (M.2.1 1 (by decide)) (by omega) (M.2.1 2 (by decide)) (by omega) s0 s1
  unfold f_X8_hear
  rcases f2_allows_all I.ok I.xc (T 1 (by decide)) (by omega) (T 2 (by decide)) (by omega) p1 with ⟨a, b⟩ | ⟨s, rfl, s0, s1, hl, a⟩
  · rw [a, obd_s, if_pos rfl]
    refine rf6 I (fun s => f_X9_hear s p1) (fun σ1 I1 _ => ?_)
    unfold f_X9_hear
    have M := I1.2.2.2.1.2.1
    rcases f9_isLawful_all I.ok I1.mc (M 1 (by decide)) (by omega) (M 2 (by decide)) (by omega) p1 with ⟨a9, -⟩ | ⟨s, rfl, s0, s1, hl, -⟩
    · rw [a9, obd_s, if_pos rfl]
    · have := b s rfl (by omega)
      rw [this] at hl
      cases hl
  · rw [a, obd_s, if_neg (by decide)]
    have s256 : s < 256 := by omega
    refine Rt.o (soundInTruth_ok I s0 s1) ?_
    rintro ⟨v, σ1⟩ ⟨h1, I1⟩
    dsimp only at h1 I1
    subst h1
    have t256 := tr_256 I (WL_pos I s0 s1)
    have y2 := oI_lt2 (sndC c s tr)
    dsimp only
    rw [oI_nI]
    generalize hy : (sndC c s tr).toNat = y at *
    have snd9 : ∀ (σ1 : PH), MHl c r hs tr sd σ1 → f_X9_soundOf σ1 (nI s) (gI σ1 81 6) = some (nI y) := fun σ1 M => by
      rw [M.2.2.2.1, f9_soundOf I.ok M.1 s256 t256, oI_nI, hy]
    rw [isKnown_8 I1 s256 y2, obd_s]
    cases hk : knC hs s y with
    | true =>
      refine Rt.f (by decide) ?_
      unfold j_X8_hear_56
      refine Rt.o (f2_learn I1.2.1 I1.2.2.1 s0 s1 y2) ?_
      rintro σ2 ⟨X2, F2⟩
      rw [learn_no hk] at X2
      have M2 : MHl c r hs tr sd σ2 := I1.2.2.2.1.fr F2 (fun r k z => by unfold WH at z; unfold WM; unfold Hls at hd; omega)
      have I2 : InA 0 c r hs tr sd σ2 d := I1.mk' F2 (fun r k z => Or.inr (Or.inl z)) I.2.1 (Nat.le_refl _) X2 M2
      refine Rt.s ?_
      dsimp only
      unfold f_X9_hear
      rw [law9 _ M2 _ s0 s1, hl, obd_s, if_neg (by decide), snd9 _ M2, obd_s, isKnown_9 I2 s256 y2, hk, obd_s, if_neg (by decide)]
      exact Rt.s ⟨rfl, I2.inv⟩
    | false =>
      refine Rt.t rfl ?_
      rw [bnd_d, room_8 I1]
      by_cases hll : hs.length < 16
      · rw [decide_eq_true hll]
        refine Rt.f (by decide) ?_
        unfold j_X8_hear_56
        refine Rt.o (learnt I1 s0 s1 y2 hk hll (fun σ2 => XH c r (hs ++ [(s, y)]) tr sd σ2 d.1 ∧ Fr (WH d.1) σ1 σ2 ∧ (∀ (σ3 : PH) (W : Nat → Nat → Prop), Fr W σ2 σ3 → (∀ r k, W r k → WM r k) → MHl c r (hs ++ [(s, y)]) tr sd σ3 → InA 0 c r (hs ++ [(s, y)]) tr sd σ3 d)) (fun σ2 a b x => ⟨a, b, x⟩)) ?_
        rintro σ2 ⟨X2, F2, kk⟩
        refine Rt.s ?_
        dsimp only
        have M2 : MHl c r hs tr sd σ2 := I1.2.2.2.1.fr F2 (fun r k z => by unfold WH at z; unfold WM; unfold Hls at hd; omega)
        unfold f_X9_hear
        rw [law9 _ M2 _ s0 s1, hl, obd_s, if_neg (by decide), snd9 _ M2, obd_s, f9_isKnown I.2.1.2.2 I.n8 M2.2.2.1 s256 y2, hk, obd_s, if_pos (show oI false = 0 from rfl), if_neg (by rw [M2.2.2.1.1, i_16, nI_eq (by omega) (by decide)]; omega)]
        refine Rt.o (f9_knows M2 hll s y) ?_
        rintro σ4 ⟨M4, F4⟩
        exact Rt.s ⟨rfl, (kk σ4 _ F4 (fun r k z => by unfold WM; omega) M4).inv⟩
      · rw [decide_eq_false hll]
        refine Rt.t rfl ?_
        refine rf7 I1 (fun x => f_X9_hear x (nI s)) (fun σ2 I2 _ => ?_)
        unfold f_X9_hear
        rw [law9 _ I2.2.2.2.1 _ s0 s1, hl, obd_s, if_neg (by decide), snd9 _ I2.2.2.2.1, obd_s, isKnown_9 I2 s256 y2, hk, obd_s, if_pos (show oI false = 0 from rfl), if_pos ((room_9 I2).mpr hll)]
theorem st_trace (σ : PH) (d : PD) (p1 : Int32) (hI : Inv σ d) : ∃ (u v : Int32), f_X8_trace σ p1 = some u ∧ f_X9_trace σ p1 = some v ∧ u = v ∧ Inv σ d := by
  obtain ⟨c, r, hs, tr, sd, I⟩ := id hI
  obtain ⟨v1, v2⟩ := I.1.2.2.2.1
  unfold f_X8_trace f_X6_traced f_X9_trace
  by_cases h0 : p1 < 0
  · exact ⟨-1, -1, by rw [if_pos h0, obd_s], by rw [if_pos h0], rfl, hI⟩
  · by_cases h1 : 20 ≤ p1
    · exact ⟨-1, -1, by rw [if_neg h0, if_pos h1, obd_s], by rw [if_neg h0, if_pos h1], rfl, hI⟩
    · obtain ⟨k, hk, rfl⟩ := nI_of h0
      have k20 : k < 20 := by rw [i_20, nI_leI (by decide) hk] at h1; omega
      by_cases h2 : gI σ 81 43 ≤ nI k
      · exact ⟨-1, -1, by rw [if_neg h0, if_neg h1, v1, if_pos h2, obd_s], by rw [if_neg h0, if_neg h1, if_pos h2], rfl, hI⟩
      · exact ⟨gI σ 4 k, gI σ 105 k, by rw [if_neg h0, if_neg h1, v1, if_neg h2, chk_t (inb_nI k20 (by decide)), nI_clamp hk, obd_s], by rw [if_neg h0, if_neg h1, if_neg h2, chk_t (inb_nI k20 (by decide)), nI_clamp hk], v2 k k20, hI⟩
theorem rule_ok (I : InA j c r hs tr sd σ d) {w : Nat} (hw4 : w < 4) : f_X2_rule σ d.1 (nI w) = some (nI (r w)) := by
  unfold f_X2_rule
  rw [if_neg (nI_nlt0 (by omega)), if_neg (show ¬ (4 : Int32) ≤ nI w by rw [i_4, nI_leI (by decide) (by omega)]; omega), chk_t (inb_nI hw4 (by decide)), nI_clamp (by omega), I.2.2.1.2.1.1 w hw4]
theorem st_status (σ : PH) (d : PD) (p1 : Int32) (hI : Inv σ d) : ∃ (u v : Int32), f_X8_status σ d p1 = some u ∧ f_X9_status σ p1 = some v ∧ u = v ∧ Inv σ d := by
  obtain ⟨c, r, hs, tr, sd, I⟩ := id hI
  have M := I.2.2.2.1
  have fin : ∀ w, f_X8_status σ d p1 = some w → f_X9_status σ p1 = some w → ∃ (u v : Int32), f_X8_status σ d p1 = some u ∧ f_X9_status σ p1 = some v ∧ u = v ∧ Inv σ d := fun w h1 h2 => ⟨w, w, h1, h2, rfl, hI⟩
  have low : p1 < 11 → f_X9_status σ p1 = j_X9_status_22 σ p1 := fun h => by
    unfold f_X9_status
    rw [if_pos h]
  by_cases e0 : p1 = 0
  · subst e0
    refine fin (nI (cN c)) ?_ ?_
    · unfold f_X8_status; rw [if_pos rfl, I.xc.1]
    · rw [low (by decide)]; unfold j_X9_status_22; rw [if_pos rfl, M.1.1]
  by_cases e1 : p1 = 1
  · subst e1
    refine fin (nI (r 0)) ?_ ?_
    · unfold f_X8_status j_X8_status_63; rw [if_neg e0, if_pos rfl, show (1 : Int32) - 1 = nI 0 from rfl, rule_ok I (by decide), obd_s]
    · rw [low (by decide)]; unfold j_X9_status_22; rw [if_neg e0, if_pos rfl]; exact congrArg some (M.2.1 0 (by decide))
  by_cases e2 : p1 = 2
  · subst e2
    refine fin (nI (r 1)) ?_ ?_
    · unfold f_X8_status j_X8_status_63; rw [if_neg e0, if_neg e1, if_pos rfl, show (2 : Int32) - 1 = nI 1 from rfl, rule_ok I (by decide), obd_s]
    · rw [low (by decide)]; unfold j_X9_status_22; rw [if_neg e0, if_neg e1, if_pos rfl]; exact congrArg some (M.2.1 1 (by decide))
  by_cases e3 : p1 = 3
  · subst e3
    refine fin (nI (r 2)) ?_ ?_
    · unfold f_X8_status j_X8_status_63; rw [if_neg e0, if_neg e1, if_neg e2, if_pos rfl, show (3 : Int32) - 1 = nI 2 from rfl, rule_ok I (by decide), obd_s]
    · rw [low (by decide)]; unfold j_X9_status_22; rw [if_neg e0, if_neg e1, if_neg e2, if_pos rfl]; exact congrArg some (M.2.1 2 (by decide))
  by_cases e4 : p1 = 4
  · subst e4
    refine fin (nI (r 3)) ?_ ?_
    · unfold f_X8_status j_X8_status_63; rw [if_neg e0, if_neg e1, if_neg e2, if_neg e3, if_pos rfl, show (4 : Int32) - 1 = nI 3 from rfl, rule_ok I (by decide), obd_s]
    · rw [low (by decide)]; unfold j_X9_status_22; rw [if_neg e0, if_neg e1, if_neg e2, if_neg e3, if_pos rfl]; exact congrArg some (M.2.1 3 (by decide))
  by_cases e5 : p1 = 5
  · subst e5
    refine fin (nI hs.length) ?_ ?_
    · unfold f_X8_status; rw [if_neg e0, if_neg e1, if_neg e2, if_neg e3, if_neg e4, if_pos rfl, I.2.2.1.2.1.2.1.1]
    · rw [low (by decide)]; unfold j_X9_status_22; rw [if_neg e0, if_neg e1, if_neg e2, if_neg e3, if_neg e4, if_pos rfl, M.2.2.1.1]
  by_cases e6 : p1 = 6
  · subst e6
    refine fin (nI tr) ?_ ?_
    · unfold f_X8_status; rw [if_neg e0, if_neg e1, if_neg e2, if_neg e3, if_neg e4, if_neg e5, if_pos rfl, trueWorld_ok I, obd_s]
    · rw [low (by decide)]; unfold j_X9_status_22; rw [if_neg e0, if_neg e1, if_neg e2, if_neg e3, if_neg e4, if_neg e5, if_pos rfl, M.2.2.2.1]
  by_cases e7 : p1 = 7
  · subst e7
    refine fin sd ?_ ?_
    · unfold f_X8_status; rw [if_neg e0, if_neg e1, if_neg e2, if_neg e3, if_neg e4, if_neg e5, if_neg e6, if_pos rfl, I.2.2.1.2.1.2.2]
    · rw [low (by decide)]; unfold j_X9_status_22; rw [if_neg e0, if_neg e1, if_neg e2, if_neg e3, if_neg e4, if_neg e5, if_neg e6, if_pos rfl, M.2.2.2.2]
  by_cases e8 : p1 = 8
  · subst e8
    refine fin (gI σ 81 43) ?_ ?_
    · unfold f_X8_status; rw [if_neg e0, if_neg e1, if_neg e2, if_neg e3, if_neg e4, if_neg e5, if_neg e6, if_neg e7, if_pos rfl, I.1.2.2.2.1.1]
    · rw [low (by decide)]; unfold j_X9_status_22; rw [if_neg e0, if_neg e1, if_neg e2, if_neg e3, if_neg e4, if_neg e5, if_neg e6, if_neg e7, if_pos rfl]
  have e8x : f_X8_status σ d p1 = f_X8_refusalsOf σ p1 := by
    unfold f_X8_status
    rw [if_neg e0, if_neg e1, if_neg e2, if_neg e3, if_neg e4, if_neg e5, if_neg e6, if_neg e7, if_neg e8]
    cases f_X8_refusalsOf σ p1 <;> rfl
  have e9x : j_X9_status_22 σ p1 = some (-1) := by
    unfold j_X9_status_22
    rw [if_neg e0, if_neg e1, if_neg e2, if_neg e3, if_neg e4, if_neg e5, if_neg e6, if_neg e7, if_neg e8]
  by_cases h11 : p1 < 11
  · refine fin (-1) ?_ ?_
    · rw [e8x]
      unfold f_X8_refusalsOf j_X8_refusalsOf_16
      rw [if_neg (by rw [Int32.le_iff_toInt_le]; rw [Int32.lt_iff_toInt_lt] at h11; omega), if_pos (by decide)]
    · rw [low h11, e9x]
  · have hge : (11 : Int32) ≤ p1 := by rw [Int32.le_iff_toInt_le]; rw [Int32.lt_iff_toInt_lt] at h11; omega
    obtain ⟨k, hk, rfl⟩ := nI_of (x := p1) (fun z => by
      rw [Int32.lt_iff_toInt_lt] at z
      rw [Int32.le_iff_toInt_le] at hge
      have : (11 : Int32).toInt = 11 := by decide
      have : (0 : Int32).toInt = 0 := by decide
      omega)
    have k11 : 11 ≤ k := by rw [i_11, nI_leI (by decide) hk] at hge; exact hge
    have ea : nI k - 11 + 1 = nI (k - 10) := by rw [i_11, pk_sub k11, nI_1]; congr 1; omega
    have eb : nI k - 10 = nI (k - 10) := by rw [i_10, pk_sub (by omega)]
    have n1 : ¬ nI (k - 10) < 1 := by rw [i_1, nI_ltI (by omega) (by decide)]; omega
    have e8y : f_X8_status σ d (nI k) = if 7 < nI (k - 10) then some (-1) else chk (inb (nI (k - 10)) 8 = true) (some (gI σ 2 (k - 10))) := by
      rw [e8x]
      unfold f_X8_refusalsOf j_X8_refusalsOf_16
      rw [if_pos hge, ea, if_neg n1, nI_clamp (by omega)]
    by_cases h17 : (17 : Int32) < nI k
    · refine fin (-1) ?_ ?_
      · rw [e8y, if_pos (by rw [i_17, nI_ltI (by decide) hk] at h17; rw [i_7, nI_ltI (by decide) (by omega)]; omega)]
      · unfold f_X9_status
        rw [if_neg h11, if_pos h17, e9x]
    · have k17 : k ≤ 17 := by rw [i_17, nI_ltI (by decide) hk] at h17; omega
      have c8 : inb (nI (k - 10)) 8 = true := inb_nI (by omega) (by decide)
      refine fin (gI σ 2 (k - 10)) ?_ ?_
      · rw [e8y, if_neg (by rw [i_7, nI_ltI (by decide) (by omega)]; omega), chk_t c8]
      · unfold f_X9_status
        rw [if_neg h11, if_neg h17, eb, chk_t c8, nI_clamp (by omega)]
        have := I.1.2.1 (k - 10) (by omega) (by omega)
        rw [if_neg (by omega), Int32.add_zero] at this
        rw [this]
end T1
