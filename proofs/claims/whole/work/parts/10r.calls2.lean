section R1
variable {j : Nat} {c : CV} {r : Nat → Nat} {hs : HS} {tr : Nat} {sd : Int32} {σ σ' : PH} {d : PD}
/-- over the reference's list -/
theorem f9_likely (I : InA j c r hs tr sd σ d) {x : Nat} (hx : x < 8) : Rt (f_X9_likely σ (nI x)) (fun u => u.1 = nI (if sumW c (psC c (r 0) hs) = 0 then 0 else 1000 * sumX c x (psC c (r 0) hs) / sumW c (psC c (r 0) hs)) ∧ InA j c r hs tr sd u.2 d) := by
  have h92 := ps92 I
  have hW : sumW c (psC c (r 0) hs) ≤ 67068 := sumW_le I.ok I.m3 (fun w hw => (List.mem_filter.mp hw).1) h92
  have hX := sumX_le (c := c) x (psC c (r 0) hs)
  unfold f_X9_likely
  refine Rt.o (mod_poss I) ?_
  rintro ⟨v, σ1⟩ ⟨h1, h2, I1, -⟩
  dsimp only at h1 h2 I1
  subst h1
  have hl : ∀ i, i < (psC c (r 0) hs).length → (psC c (r 0) hs).getD i 0 < 256 := fun i hi => (psC_lt I.ok (getD_mem hi)).2.1
  generalize psC c (r 0) hs = l at *
  refine lp_acc (enc := fun (a : Nat × Nat) (i : Nat) => ((nI a.1, nI a.2, nI i) : Int32 × Int32 × Int32)) l.length (fun a i => a.1 = it (fun i y => y + (if (l.getD i 0).testBit x then wtC c (l.getD i 0) else 0)) 0 i ∧ a.2 = it (fun i y => y + wtC c (l.getD i 0)) 0 i) _ ?_ ?_ FU (0, 0) 0 (Nat.zero_le _) (FU_big (by omega)) ⟨rfl, rfl⟩
  · rintro rec ⟨a, b⟩ i hi ⟨hJ, hJ2⟩ hrec
    dsimp only at hJ hJ2 hrec
    dsimp only [b_X9_likely_13, bnd]
    have w1 := hl i hi
    rw [nI_clamp (by omega), h2 i hi, f9_weight I.ok I1.mc w1, obd_s, nI_add, f9_isIn (by omega) (by omega), nI_1]
    have e92 : inb (nI i) 92 = true := inb_nI (by omega) (by decide)
    refine Rt.f (by rw [nI_leI (by omega) (by omega)]; omega) (Rt.c e92 (Rt.c e92 ?_))
    cases hb : (l.getD i 0).testBit x with
    | false => exact Rt.t rfl (hrec (_, _) ⟨by rw [it_s, ← hJ, hb]; rfl, by rw [it_s, ← hJ2]⟩)
    | true =>
      refine Rt.f (by decide) ?_
      rw [nI_add]
      exact hrec (_, _) ⟨by rw [it_s, ← hJ, hb]; rfl, by rw [it_s, ← hJ2]⟩
  · rintro rec ⟨a, b⟩ ⟨hJ, hJ2⟩
    dsimp only at hJ hJ2
    dsimp only [b_X9_likely_13, bnd, j_X9_likely_65]
    refine Rt.t (nI_le (Nat.le_refl _) (by omega)) ?_
    rw [it_list (fun w y => y + (if w.testBit x then wtC c w else 0))] at hJ
    rw [it_list (fun w y => y + wtC c w)] at hJ2
    have s1 : a = sumX c x l := hJ
    have s2 : b = sumW c l := hJ2
    rw [← s1, ← s2]
    rw [← s1, ← s2] at hX
    rw [← s2] at hW
    by_cases e : b = 0
    · subst e
      exact Rt.t rfl (Rt.s ⟨rfl, I1⟩)
    · have hne : ¬ nI b = 0 := by rw [i_0, nI_eq (by omega) (by decide)]; exact e
      refine Rt.f hne (Rt.c hne (Rt.s ⟨?_, I1⟩))
      dsimp only
      rw [if_neg e, show (1000 : Int32) = nI 1000 from rfl, pk_mul, pk_div (by omega) (by omega) (by omega)]
theorem likely_ok (I : InA j c r hs tr sd σ d) {x : Nat} (hx : x < 8) : f_X2_likely σ d.1 (nI x) = some (nI (if sumW c (psC c (r 0) hs) = 0 then 0 else 1000 * sumX c x (psC c (r 0) hs) / sumW c (psC c (r 0) hs))) :=
  f2_likely I.ok I.m3 rfl I.xq.2.1 I.xq.2.2.2 I.rep hx
theorem st_singerOf (σ : PH) (d : PD) (p1 p2 : Int32) (hI : Inv σ d) : ∃ (u v : Int32 × PH), f_X8_singerOf σ d p1 p2 = some u ∧ f_X9_singerOf u.2 p1 p2 = some v ∧ u.1 = v.1 ∧ Inv v.2 d := by
  obtain ⟨c, r, hs, tr, sd, I⟩ := hI
  have n8 := I.n8
  refine two (y := fun s => f_X9_singerOf s p1 p2) ?_
  unfold f_X8_singerOf
  rw [bnd_d]
  rcases f0_has I.ok I.xc p1 with ⟨q, hn⟩ | ⟨q, x, hx, rfl⟩
  · rw [q, if_pos rfl]
    refine rf5 I (fun s => f_X9_singerOf s p1 p2) (fun σ1 I1 _ => ?_)
    unfold f_X9_singerOf
    rw [bnd_d]
    rcases f9_isSinger I.ok I1.mc p1 with ⟨q, -⟩ | ⟨-, x, hx, e⟩
    · rw [q, if_pos rfl]
    · exact absurd e (hn x hx)
  · rw [q, if_neg (by decide)]
    have s9 : ∀ {σ1 : PH}, MC c σ1 → f_X9_isSinger σ1 (nI x) = 1 := fun {σ1} hM => by
      rcases f9_isSinger I.ok hM (nI x) with ⟨-, q⟩ | ⟨q, -⟩
      · exact absurd rfl (q x hx)
      · exact q
    have e8 : inb (nI x) 8 = true := inb_nI (by omega) (by decide)
    obtain ⟨a1, a2, a3, a4⟩ := I.xc.2.1 x hx
    obtain ⟨b1, b2, b3, b4⟩ := I.mc.2 x hx
    by_cases h0 : p2 = 0
    · rw [if_pos h0, chk_t e8]
      refine Rt.s ?_
      dsimp only
      unfold f_X9_singerOf
      rw [bnd_d, s9 I.mc, if_neg (by decide), if_pos h0, chk_t e8, nI_clamp (by omega), a1, b1]
      exact Rt.s ⟨rfl, I.inv⟩
    rw [if_neg h0]
    by_cases h1 : p2 = 1
    · rw [if_pos h1, chk_t e8]
      refine Rt.s ?_
      dsimp only
      unfold f_X9_singerOf
      rw [bnd_d, s9 I.mc, if_neg (by decide), if_neg h0, if_pos h1, chk_t e8, nI_clamp (by omega), a2, b2]
      exact Rt.s ⟨rfl, I.inv⟩
    rw [if_neg h1]
    by_cases h2 : p2 = 2
    · rw [if_pos h2, chk_t e8]
      refine Rt.s ?_
      dsimp only
      unfold f_X9_singerOf
      rw [bnd_d, s9 I.mc, if_neg (by decide), if_neg h0, if_neg h1, if_pos h2, chk_t e8, nI_clamp (by omega), a3, b3]
      exact Rt.s ⟨rfl, I.inv⟩
    rw [if_neg h2]
    by_cases h3 : p2 = 3
    · rw [if_pos h3, chk_t e8]
      refine Rt.s ?_
      dsimp only
      unfold f_X9_singerOf
      rw [bnd_d, s9 I.mc, if_neg (by decide), if_neg h0, if_neg h1, if_neg h2, if_pos h3, chk_t e8, nI_clamp (by omega), a4, b4]
      exact Rt.s ⟨rfl, I.inv⟩
    rw [if_neg h3]
    by_cases h4 : p2 = 4
    · rw [if_pos h4, likely_ok I (by omega), obd_s]
      refine Rt.s ?_
      dsimp only
      unfold f_X9_singerOf
      rw [bnd_d, s9 I.mc, if_neg (by decide), if_neg h0, if_neg h1, if_neg h2, if_neg h3, if_pos h4]
      refine Rt.o (f9_likely I (by omega)) ?_
      rintro ⟨v, σ1⟩ ⟨e, I1⟩
      exact Rt.s ⟨e.symm, I1.inv⟩
    rw [if_neg h4]
    refine rf5 I (fun s => f_X9_singerOf s _ p2) (fun σ1 I1 _ => ?_)
    unfold f_X9_singerOf
    rw [bnd_d, s9 I1.mc, if_neg (by decide), if_neg h0, if_neg h1, if_neg h2, if_neg h3, if_neg h4]
theorem st_may (σ : PH) (d : PD) (p1 : Int32) (hI : Inv σ d) : ∃ (u v : Int32 × PH), f_X8_may σ d p1 = some u ∧ f_X9_may u.2 p1 = some v ∧ u.1 = v.1 ∧ Inv v.2 d := by
  obtain ⟨c, r, hs, tr, sd, I⟩ := hI
  refine two (y := fun s => f_X9_may s p1) ?_
  have h92 := ps92 I
  have n8 := I.n8
  have h9 := p2_9 n8
  have M : f_X9_isOne p1 = 1 → Rt (f_X9_may σ p1) (fun v => (p1 = 0 → v.1 = nI (orL (psC c (r 0) hs))) ∧ (p1 ≠ 0 → v.1 = nI (if (psC c (r 0) hs).length = 0 then 0 else andL (2 ^ cN c - 1) (psC c (r 0) hs))) ∧ Inv v.2 d) := by
    intro e1
    unfold f_X9_may
    rw [bnd_d, e1, if_neg (by decide)]
    refine Rt.o (mod_poss I) ?_
    rintro ⟨v, σ1⟩ ⟨q1, q2, I1, -⟩
    dsimp only at q1 q2 I1
    subst q1
    dsimp only
    rw [bnd_d, f9_everybody I.ok I1.mc]
    generalize psC c (r 0) hs = l at *
    refine lp_acc (enc := fun (a : Nat × Nat) (i : Nat) => ((nI a.1, nI a.2, nI i) : Int32 × Int32 × Int32)) l.length (fun a i => a.1 = it (fun i y => y ||| l.getD i 0) 0 i ∧ a.2 = it (fun i y => y &&& l.getD i 0) (2 ^ cN c - 1) i) _ ?_ ?_ FU (0, 2 ^ cN c - 1) 0 (Nat.zero_le _) (FU_big (by omega)) ⟨rfl, rfl⟩
    · rintro rec ⟨a, b⟩ i hi ⟨hJ, hJ2⟩ hrec
      dsimp only at hJ hJ2 hrec
      dsimp only [b_X9_may_31, bnd]
      have e92 : inb (nI i) 92 = true := inb_nI (by omega) (by decide)
      rw [nI_clamp (by omega), q2 i hi, nI_or, nI_and, nI_1]
      refine Rt.f (by rw [nI_leI (by omega) (by omega)]; omega) (Rt.c e92 (Rt.c e92 (hrec (_, _) ⟨by rw [it_s, ← hJ], by rw [it_s, ← hJ2]⟩)))
    · rintro rec ⟨a, b⟩ ⟨hJ, hJ2⟩
      dsimp only at hJ hJ2
      dsimp only [b_X9_may_31, bnd, j_X9_may_65]
      refine Rt.t (nI_le (Nat.le_refl _) (by omega)) ?_
      rw [it_list (fun w y => y ||| w)] at hJ
      rw [it_list (fun w y => y &&& w)] at hJ2
      by_cases e : p1 = 0
      · exact Rt.t e (Rt.s ⟨fun _ => by rw [hJ]; rfl, fun z => absurd e z, I1.inv⟩)
      · refine Rt.f e ?_
        by_cases e0 : l.length = 0
        · exact Rt.t (by rw [e0]; rfl) (Rt.s ⟨fun z => absurd z e, fun _ => by rw [if_pos e0]; rfl, I1.inv⟩)
        · exact Rt.f (by rw [i_0, nI_eq (by omega) (by decide)]; exact e0) (Rt.s ⟨fun z => absurd z e, fun _ => by rw [if_neg e0, hJ2]; rfl, I1.inv⟩)
  unfold f_X8_may
  rcases one_i p1 with ⟨rfl, e1⟩ | ⟨rfl, e1⟩ | ⟨m0, m1, e1⟩
  · rw [if_pos rfl, f2_wrongInSome I.xq.2.1 I.xq.2.2.2 I.rep, obd_s]
    refine Rt.s ((M e1).m ?_)
    rintro ⟨v, σ1⟩ ⟨a, -, b⟩
    exact ⟨(a rfl).symm, b⟩
  · rw [if_neg (by decide), if_pos rfl, f2_wrongInAll I.ok I.xc I.xq.2.1 I.xq.2.2.2 I.rep, obd_s]
    refine Rt.s ((M e1).m ?_)
    rintro ⟨v, σ1⟩ ⟨-, a, b⟩
    exact ⟨(a (by decide)).symm, b⟩
  · rw [if_neg m0, if_neg m1]
    refine rf5 I (fun s => f_X9_may s p1) (fun σ1 _ _ => ?_)
    unfold f_X9_may
    rw [bnd_d, e1, if_pos rfl]
theorem st_likeliest (σ : PH) (d : PD) (hI : Inv σ d) : ∃ (u v : Int32 × PH), f_X8_likeliest σ d = some u ∧ f_X9_likeliest u.2 = some v ∧ u.1 = v.1 ∧ Inv v.2 d := by
  obtain ⟨c, r, hs, tr, sd, I⟩ := hI
  refine two (y := fun s => f_X9_likeliest s) ?_
  have h92 := ps92 I
  unfold f_X8_likeliest
  rw [bnd_d, I.poss]
  by_cases e0 : (psC c (r 0) hs).length = 0
  · rw [if_pos (by rw [e0]; rfl)]
    refine Rt.o (refuse_ok I (k := 5) (by decide) (by decide) (p := -5) (by decide)) ?_
    rintro ⟨v, σ1⟩ ⟨e1, I1, -⟩
    refine Rt.s ?_
    dsimp only at e1 I1 ⊢
    unfold f_X9_likeliest
    refine Rt.o (mod_poss I1) ?_
    rintro ⟨w, σ2⟩ ⟨h1, -, h3, -⟩
    dsimp only at h1 h3
    subst h1
    refine Rt.t (by rw [e0]; rfl) (Rt.o (no_ok h3 (by decide) (by decide) (by decide)) ?_)
    rintro ⟨w, σ3⟩ ⟨e2, I2⟩
    exact Rt.s ⟨e1.trans e2.symm, I2.inv⟩
  · have ne : ¬ nI (psC c (r 0) hs).length = 0 := by rw [i_0, nI_eq (by omega) (by decide)]; exact e0
    rw [if_neg ne, show f_X2_likeliestWorld σ d.1 = some (nI (lkF c (psC c (r 0) hs)).1) from f2_likeliest I.ok I.m3 rfl I.xq.2.1 I.xq.2.2.2 I.rep (by show 0 < (psC c (r 0) hs).length; omega), obd_s]
    refine Rt.s ?_
    dsimp only
    unfold f_X9_likeliest
    refine Rt.o (mod_poss I) ?_
    rintro ⟨w, σ1⟩ ⟨h1, h2, I1, -⟩
    dsimp only at h1 h2 I1
    subst h1
    refine Rt.f ne ?_
    dsimp only [bnd]
    rw [show (0 : Int32).toNatClampNeg = 0 from rfl, h2 0 (by omega)]
    have hl : ∀ i, i < (psC c (r 0) hs).length → (psC c (r 0) hs).getD i 0 < 256 ∧ 1 ≤ wtC c ((psC c (r 0) hs).getD i 0) ∧ wtC c ((psC c (r 0) hs).getD i 0) ≤ 729 := fun i hi => ⟨(psC_lt I.ok (getD_mem hi)).2.1, wtC_729 I.ok I.m3 (List.mem_filter.mp (getD_mem hi)).1⟩
    generalize psC c (r 0) hs = l at *
    refine lp_acc (enc := fun (a : Nat × Nat) (i : Nat) => ((nI a.1, nI i) : Int32 × Int32)) l.length (fun a i => 0 < i ∧ a = it (fun i (y : Nat × Nat) => if y.2 < wtC c (l.getD i 0) then (l.getD i 0, wtC c (l.getD i 0)) else y) (0, 0) i ∧ a.2 = wtC c a.1 ∧ a.1 < 256 ∧ a.2 ≤ 729) _ ?_ ?_ FU (l.getD 0 0, wtC c (l.getD 0 0)) 1 (by omega) (FU_big (by omega)) ⟨by decide, ?_, rfl, (hl 0 (by omega)).1, (hl 0 (by omega)).2.2⟩
    · rintro rec ⟨a, b⟩ i hi ⟨hi0, hJ, hb, ha, hb2⟩ hrec
      dsimp only at hb ha hb2 hrec
      dsimp only [b_X9_likeliest_25, bnd]
      obtain ⟨w1, w2, w3⟩ := hl i hi
      have e92 : inb (nI i) 92 = true := inb_nI (by omega) (by decide)
      rw [nI_clamp (by omega), h2 i hi, f9_weight I.ok I1.mc w1, f9_weight I.ok I1.mc ha, obd_s, obd_s, nI_1, ← hb]
      refine Rt.f (by rw [nI_leI (by omega) (by omega)]; omega) (Rt.c e92 ?_)
      by_cases e : b < wtC c (l.getD i 0)
      · refine Rt.f (by rw [nI_leI (by omega) (by omega)]; omega) (Rt.c e92 (hrec (l.getD i 0, wtC c (l.getD i 0)) ⟨by omega, ?_, rfl, w1, w3⟩))
        rw [it_s, ← hJ, if_pos e]
      · refine Rt.t (nI_le (by omega) (by omega)) (hrec (a, b) ⟨by omega, ?_, hb, ha, hb2⟩)
        rw [it_s, ← hJ, if_neg e]
    · rintro rec ⟨a, b⟩ ⟨hi0, hJ, hb, ha, hb2⟩
      dsimp only [b_X9_likeliest_25, bnd]
      refine Rt.t (nI_le (Nat.le_refl _) (by omega)) (Rt.s ⟨?_, I1.inv⟩)
      rw [it_list (fun w (y : Nat × Nat) => if y.2 < wtC c w then (w, wtC c w) else y)] at hJ
      have : (a, b) = lkF c l := hJ
      dsimp only
      rw [← this]
    · rw [it_s, it_0, if_pos (show (0, 0).2 < wtC c (l.getD 0 0) from (hl 0 (by omega)).2.1)]
theorem f9_wrongOf (ok : CVok c) (hM : MC c σ) {l : List Nat} (hL : LsI σ 101 l) (h92 : l.length ≤ 92) (hw : ∀ w ∈ l, w < 256) {s : Nat} (hs : s < 256) : f_X9_wrongOf σ (nI l.length) 0 (nI s) = some (nI (l.countP (sndC c s))) := by
  unfold f_X9_wrongOf
  apply Rt.q
  refine lp_acc (enc := fun (a : Nat) (i : Nat) => ((nI a, nI i) : Int32 × Int32)) l.length (fun a i => a = (l.take i).countP (sndC c s)) _ ?_ ?_ FU 0 0 (Nat.zero_le _) (FU_big (by omega)) rfl
  · intro rec a i hi hJ hrec
    dsimp only [b_X9_wrongOf_6, bnd]
    have e92 : inb (0 + nI i) 92 = true := inb_in i (Int32.zero_add _) (by omega) (by decide)
    rw [Int32.zero_add, nI_clamp (by omega), hL i hi, f9_soundOf ok hM hs (hw _ (getD_mem hi)), obd_s, oI_nI, nI_add, nI_1]
    refine Rt.f (by rw [nI_leI (by omega) (by omega)]; omega) (Rt.c (by rw [Int32.zero_add] at e92; exact e92) (hrec _ ?_))
    rw [take_snoc hi, List.countP_append, List.countP_singleton, ← hJ]
    cases sndC c s (l.getD i 0) <;> rfl
  · intro rec a hJ
    dsimp only [b_X9_wrongOf_6, bnd]
    rw [List.take_length] at hJ
    exact Rt.t (nI_le (Nat.le_refl _) (by omega)) (Rt.s (by rw [hJ]))
theorem st_parts (σ : PH) (d : PD) (p1 p2 : Int32) (hI : Inv σ d) : ∃ (u v : Int32 × PH), f_X8_parts σ d p1 p2 = some u ∧ f_X9_parts u.2 p1 p2 = some v ∧ u.1 = v.1 ∧ Inv v.2 d := by
  obtain ⟨c, r, hs, tr, sd, I⟩ := hI
  refine two (y := fun s => f_X9_parts s p1 p2) ?_
  have h92 := ps92 I
  have h9 := p2_9 I.n8
  have no5 : f_X9_isOne p2 = 0 → Rt (obd (f_X8_refuse σ (-5)) (fun u => some (u.1, u.2))) (fun u => Rt (f_X9_parts u.2 p1 p2) (fun v => u.1 = v.1 ∧ Inv v.2 d)) := fun e =>
    rf5 I (fun s => f_X9_parts s p1 p2) (fun σ1 _ _ => by
      unfold f_X9_parts
      rw [bnd_d, e, if_pos rfl])
  unfold f_X8_parts
  by_cases n0 : p2 < 0
  · rw [if_pos n0]
    refine no5 ?_
    rcases one_i p2 with ⟨rfl, -⟩ | ⟨rfl, -⟩ | ⟨-, -, e⟩
    · exact absurd n0 (by decide)
    · exact absurd n0 (by decide)
    · exact e
  · rw [if_neg n0]
    by_cases n1 : p2 ≤ 1
    · rw [if_pos n1]
      obtain ⟨y, hy, rfl⟩ := nI_of2 (M := 1) (n := 1) rfl n0 n1
      have e1 : f_X9_isOne (nI y) = 1 := by
        rcases (show y = 0 ∨ y = 1 by omega) with rfl | rfl <;> rfl
      rw [bnd_d]
      rcases f0_isSet I.ok I.xc p1 with ⟨q, hn⟩ | ⟨q, s, s0, s1, rfl⟩
      · rw [q, if_pos rfl]
        refine rf6 I (fun s => f_X9_parts s p1 _) (fun σ1 I1 _ => ?_)
        unfold f_X9_parts
        rw [bnd_d, e1, if_neg (by decide), bnd_d]
        rcases f9_isSet I1.ok I1.mc p1 with ⟨q9, -⟩ | ⟨-, s, s0, s1, e⟩
        · rw [q9, if_pos rfl]
        · exact absurd e (hn s s0 s1)
      · rw [q, if_neg (by decide)]
        refine Rt.o (f7_wrongAmong I.ok I.xq s0 s1 I.rep) ?_
        rintro ⟨v, σ1⟩ ⟨h1, h2, h3⟩
        dsimp only at h1 h2 h3
        have I1 := I.ca h3 h2
        have ek : (WL (cN c) (r 0)).countP (fun w => okH c hs w && sndC c s w) = (psC c (r 0) hs).countP (sndC c s) := by
          unfold psC
          rw [List.countP_filter]
          apply List.countP_congr
          intro w _
          rw [Bool.and_comm]
        rw [ek] at h1
        subst h1
        dsimp only
        rw [bnd_d, I1.poss]
        have hk := List.countP_le_length (p := sndC c s) (l := psC c (r 0) hs)
        have q9 : ∀ σ1, MC c σ1 → f_X9_isSet σ1 (nI s) = 1 := fun σ1 hM => by
          rcases f9_isSet I.ok hM (nI s) with ⟨-, q9⟩ | ⟨q9, -⟩
          · exact absurd rfl (q9 s s0 s1)
          · exact q9
        have M : ∀ (A : Int32), (y = 0 → A = nI ((psC c (r 0) hs).countP (sndC c s))) → (y = 1 → A = nI (mx2 ((psC c (r 0) hs).countP (sndC c s)) ((psC c (r 0) hs).length - (psC c (r 0) hs).countP (sndC c s)))) → Rt (f_X9_parts σ1 (nI s) (nI y)) (fun v => A = v.1 ∧ Inv v.2 d) := fun A A0 A1 => by
          unfold f_X9_parts
          rw [bnd_d, e1, if_neg (by decide), bnd_d, q9 σ1 I1.mc, if_neg (by decide)]
          refine Rt.o (mod_poss I1) ?_
          rintro ⟨v, σ2⟩ ⟨g1, g2, I2, -⟩
          dsimp only at g1 g2 I2
          subst g1
          dsimp only
          rw [f9_wrongOf I.ok I2.mc g2 h92 (fun w hw => (psC_lt I.ok hw).2.1) (by omega), obd_s]
          rcases (show y = 0 ∨ y = 1 by omega) with rfl | rfl
          · exact Rt.t rfl (Rt.s ⟨A0 rfl, I2.inv⟩)
          · refine Rt.f (by decide) ?_
            rw [pk_sub hk]
            unfold mx2 at A1
            by_cases e : (psC c (r 0) hs).countP (sndC c s) < (psC c (r 0) hs).length - (psC c (r 0) hs).countP (sndC c s)
            · refine Rt.t (nI_le (by omega) (by omega)) (Rt.s ⟨?_, I2.inv⟩)
              rw [A1 rfl, if_pos e]
            · rw [if_neg e] at A1
              by_cases e2 : (psC c (r 0) hs).countP (sndC c s) = (psC c (r 0) hs).length - (psC c (r 0) hs).countP (sndC c s)
              · refine Rt.t (by rw [← e2]; exact nI_le (Nat.le_refl _) (by omega)) (Rt.s ⟨?_, I2.inv⟩)
                dsimp only
                rw [A1 rfl, ← e2]
              · exact Rt.f (by rw [nI_leI (by omega) (by omega)]; omega) (Rt.s ⟨A1 rfl, I2.inv⟩)
        rcases (show y = 0 ∨ y = 1 by omega) with rfl | rfl
        · rw [if_pos (show nI 0 = 0 from rfl)]
          exact Rt.s (M _ (fun _ => rfl) (fun z => absurd z (by decide)))
        · rw [if_neg (show ¬ nI 1 = 0 by decide)]
          refine Rt.s (M _ (fun z => absurd z (by decide)) (fun _ => ?_))
          dsimp only
          rw [pk_sub hk, mxI_nI (by omega) (by omega)]
    · rw [if_neg n1]
      refine no5 ?_
      rcases one_i p2 with ⟨rfl, -⟩ | ⟨rfl, -⟩ | ⟨-, -, e⟩
      · exact absurd (by decide) n1
      · exact absurd (by decide) n1
      · exact e
end R1
