/-! ===== public calls: worth, just ===== -/
section WJ
variable {l : Launch} {G : zG} {d : Nat} {v : Vw} {o : Lw}
theorem b_one : ∀ p, p < 4 → ((1 : Int32) <<< (nI p &&& 31)) = nI (2 ^ p) ∧ 2 ^ p < 16 := by decide +kernel
theorem aEnd0 {p : Nat} (hp : p < 4) : aEnd l G (fun _ s => gIn p s) (nI 0) (nI p) := by
  intro d I L t s hd ht hs
  refine t_X9_atEnd ⟨fun _ => bB 0 (cIsIn9 hs hp) (by omega) (fun e => ⟨fun c => absurd c i1_0, fun _ => zE.of ?_⟩) (fun e => ⟨fun _ => zE.of ?_, fun c => absurd rfl c⟩), fun c => absurd c (by decide), fun c => absurd c (by decide), fun c => absurd rfl c⟩
  · show (1 : Int64) = lN (gIn p s)
    rw [gIn, if_pos e]
    rfl
  · show (0 : Int64) = lN (gIn p s)
    rw [gIn, if_neg e]
    rfl
theorem aEnd1 {p : Nat} (hp : p < 4) : aEnd l G (fun _ s => if s = 2 ^ p then 1 else 0) (nI 1) (nI p) := by
  intro d I L t s hd ht hs
  obtain ⟨e1, e2⟩ := b_one p hp
  refine t_X9_atEnd ⟨fun c => absurd c (by decide), fun _ => ?_, fun c => absurd c (by decide), fun _ c => absurd rfl c⟩
  rw [e1]
  refine ⟨fun c => zE.of ?_, fun c => zE.of ?_⟩
  · show (0 : Int64) = lN (if s = 2 ^ p then 1 else 0)
    rw [if_neg (fun z => c (by rw [z]))]
    rfl
  · show (1 : Int64) = lN (if s = 2 ^ p then 1 else 0)
    rw [if_pos (nI_inj (by omega) (by omega) c)]
    rfl
theorem aEnd2 {q : Nat} (hq : q < 16) : aEnd l G (fun _ s => if s = q then 1 else 0) (nI 2) (nI q) := by
  intro d I L t s hd ht hs
  refine t_X9_atEnd ⟨fun c => absurd c (by decide), fun c => absurd c (by decide), fun _ => ⟨fun c => zE.of ?_, fun c => zE.of ?_⟩, fun _ _ c => absurd rfl c⟩
  · show (0 : Int64) = lN (if s = q then 1 else 0)
    rw [if_neg (fun z => c (by rw [z]))]
    rfl
  · show (1 : Int64) = lN (if s = q then 1 else 0)
    rw [if_pos (nI_inj (by omega) (by omega) c)]
    rfl
theorem aEnd3 : aEnd l G (fun t _ => t) (nI 3) (0 : Int32) := by
  intro d I L t s hd ht hs
  exact t_X9_atEnd ⟨fun c => absurd c (by decide), fun c => absurd c (by decide), fun c => absurd c (by decide), fun _ _ _ => zE.of (nI_l (by omega))⟩
theorem cWhole {I : zIM} {L : zLM} (hv : vOk v) (hG : cG v I) : zCl l G d mX4_whole [.ref 14] I L (zE (lN (12 ^ vB v)) I L) :=
  t_X4_whole ⟨vB v, hG.2.1, by have := hv.2.1; omega, zE.of (pow12 _ hv.2.1).2.2⟩
/-- whole, lowest: behind all -/
theorem cLowW {I0 I : zIM} {L0 L : zLM} (hv : vOk v) (hG : cG v I) {A : Nat} {part : Int32} {x : Int64} (hx : x = lN A) (hA : A < 2 ^ 48) (h1 : oC2 I0 I) (h2 : oCL2 L0 L) (h3 : rNum v o I) (hd : 2 ≤ d) : ∃ (d12 : Nat) (P12 : Int64 → zIM → zLM → Prop), d12 + 1 ≤ d ∧ zCl l G d12 mX4_whole [.ref 14] I L P12 ∧ ∀ (y12 : Int64) (I12 : zIM) (L12 : zLM), P12 y12 I12 L12 → (∃ (d13 : Nat) (P13 : Int64 → zIM → zLM → Prop), d13 + 1 ≤ d ∧ zCl l G d13 mX8_lowest [.long x, .long y12, .int part] I12 L12 P13 ∧ ∀ (y13 : Int64) (I13 : zIM) (L13 : zLM), P13 y13 I13 L13 → (qC (sPrt A (12 ^ vB v) part) v o I0 L0 y13 I13 L13)) := by
  obtain ⟨p1, p2, p3⟩ := pow12 (vB v) hv.2.1
  subst hx
  exact bL 0 (cWhole hv hG) (by omega) (bL 1 (cLowest hA (by omega) p2 (Nat.le_refl 1)) (by omega) ⟨rfl, h1, h2, h3⟩)
/-- solve, spread -/
theorem cSvSp {I : zIM} {L : zLM} (hv : vOk v) (hG : cG v I) (hF : cF v I) (hL : rLaw o I) (hN : rNum v o I) {K : zIM → zLM → Prop} {I7 : zIM} {L7 : zLM} (hq : qSv v o I L I7 L7) (hd : 6 ≤ d) (k : ∀ L9, cG v I7 → oC2 I I7 → oCL2 L L9 → rNum v o I7 → spEnd v o L9 → K I7 L9) : ∃ (d9 : Nat) (P9 : zIM → zLM → Prop), d9 + 1 ≤ d ∧ zCv l G d9 mX4_spread [.ref 14] I7 L7 P9 ∧ ∀ (I9 : zIM) (L9 : zLM), P9 I9 L9 → K I9 L9 := by
  refine ⟨5, _, by omega, cSpread hv (hq.2.2.2.1.gG hG) (hq.2.2.2.1.gF hF) hq.2.1 (fun t m a b ha => sNum_le hv hL ha) hq.1 (Nat.le_refl 5), ?_⟩
  rintro _ L9 ⟨rfl, g1, g2⟩
  exact k L9 (hq.2.2.2.1.gG hG) hq.2.2.2.1.up (fun a b h1 h2 h3 h4 h5 => (g1 a b h2 h4 (by omega)).trans (hq.2.2.2.2 a b h3)) hq.num g2
theorem mPartV {I I' : zIM} {L L' : zLM} (hv : vOk v) (hM : mG v I) {A : Nat} {part : Int32} (hA : A < 2 ^ 48) (hpart : part = 0 ∨ part = 1) (h1 : oM I I') (h2 : oML2 L L') (h3 : ∀ b, b ≤ 9 → L' 56 b = zPOW b) (hd : 2 ≤ d) : ∃ (d9 : Nat) (P9 : Int64 → zIM → zLM → Prop), d9 + 1 ≤ d ∧ zCl l G d9 mX9_partOf [.ref 44, .long (lN A), .int part] I' L' P9 ∧ ∀ (y9 : Int64) (I9 : zIM) (L9 : zLM), P9 y9 I9 L9 → (qM (sPrt A (12 ^ vB v) part) I L y9 I9 L9) :=
  bL 1 (mPartOf (h1.gG hM).2.1 hv.2.1 (h3 _ hv.2.1) hA hpart (Nat.le_refl 1)) (by omega) ⟨rfl, h1.up, h2⟩
theorem mWorthV {I : zIM} {L : zLM} (hv : vOk v) (hM : mG v I) (hL : rLaw o I) {p : Nat} (hp : p < vn v) (hd : 106 ≤ d) : zCl l G d mX9_worthOf [.ref 44, .int (nI p)] I L (qV (sBeg v o 0 p) I L) := by
  refine t_X9_worthOf ⟨105, _, by omega, mSolves hv hM hL (Nat.le_refl 105), fun I1 L1 hq => ?_⟩
  have hM1 := hq.2.2.1.gG hM
  exact bE 0 (cAll9 hv.1 hM1.1) (by omega) (bL 2 (mBeg0 hv hM1 hq.1 hp (Nat.le_refl 2)) (by omega) ⟨rfl, hq.2.2.1, hq.2.2.2.up, hq.2.1⟩)
theorem i01 {x : Int32} (h : iN x 0 1) : x = 0 ∨ x = 1 := by
  obtain ⟨j, -, hj, rfl⟩ := h
  rcases (by omega : j = 0 ∨ j = 1) with rfl | rfl
  · exact Or.inl rfl
  · exact Or.inr rfl
theorem s_worth (x1 x2 x3 : Int32) : zStepL l G mX8_worth mX9_worth [.int x1, .int x2, .int x3] := by
  refine zStepL_of fun v o nb I L hR => ?_
  obtain ⟨hv, hG, hF, hM, hLw, hNm, -⟩ := id hR
  have hn := hv.1
  have hb := hv.2.1
  have h12 : ∀ t m a b, a < 4 → sNum v o t m a b ≤ 12 := fun t m a b ha => sNum_le hv hLw ha
  by_cases h1 : iP x1 (vn v)
  rotate_left
  · exact ⟨-9223372036854775808, t_X8_worth (bBf 0 (cHasB _ hv hG) (by omega) h1 ⟨fun _ => qC.of rfl hNm, fun c => absurd rfl c⟩), fun I1 L1 hR1 _ _ => t_X9_worth (bBf 1 (cIsPlayer9 _ hn hR1.2.2.2.1.1 (by omega)) (by omega) h1 ⟨fun _ => qM.of rfl, fun c => absurd rfl c⟩)⟩
  by_cases h2 : iN x2 0 2
  rotate_left
  · exact ⟨-9223372036854775808, t_X8_worth (bBt 0 (cHasB _ hv hG) (by omega) h1 ⟨fun c => absurd c i1_0, fun _ => bBf 0 (cWithin8 _ 2 (by omega)) (by omega) h2 ⟨fun _ => qC.of rfl hNm, fun c => absurd rfl c⟩⟩), fun I1 L1 hR1 _ _ => t_X9_worth (bBt 1 (cIsPlayer9 _ hn hR1.2.2.2.1.1 (by omega)) (by omega) h1 ⟨fun c => absurd c i1_0, fun _ => bBf 0 (cWithin9 _ 0 2 (by omega) (by omega)) (by omega) h2 ⟨fun _ => qM.of rfl, fun c => absurd rfl c⟩⟩)⟩
  by_cases h3 : iN x3 0 1
  rotate_left
  · exact ⟨-9223372036854775808, t_X8_worth (bBt 0 (cHasB _ hv hG) (by omega) h1 ⟨fun c => absurd c i1_0, fun _ => bBt 0 (cWithin8 _ 2 (by omega)) (by omega) h2 ⟨fun c => absurd c i1_0, fun _ => bBf 0 (cWithin8 _ 1 (by omega)) (by omega) h3 ⟨fun c => absurd rfl c, fun _ => qC.of rfl hNm⟩⟩⟩), fun I1 L1 hR1 _ _ => t_X9_worth (bBt 1 (cIsPlayer9 _ hn hR1.2.2.2.1.1 (by omega)) (by omega) h1 ⟨fun c => absurd c i1_0, fun _ => bBt 0 (cWithin9 _ 0 2 (by omega) (by omega)) (by omega) h2 ⟨fun c => absurd c i1_0, fun _ => bBf 0 (cWithin9 _ 0 1 (by omega) (by omega)) (by omega) h3 ⟨fun c => absurd rfl c, fun _ => qM.of rfl⟩⟩⟩)⟩
  have hpart := i01 h3
  obtain ⟨p, hp, rfl⟩ := id h1
  obtain ⟨wh, -, hwh, rfl⟩ := id h2
  -- both sides, the checks being over
  have C : ∀ A, (∀ I7 L7, qSv v o I L I7 L7 → ((¬ nI wh = 0 → (∃ (d9 : Nat) (P9 : zIM → zLM → Prop), d9 + 1 ≤ 900 ∧ zCv l G d9 mX4_spread [.ref 14] I7 L7 P9 ∧ ∀ (I9 : zIM) (L9 : zLM), P9 I9 L9 → (((¬ nI wh = (1 : Int32) → (∃ j11 : Nat, ((1 : Int32) <<< (nI p &&& 31)) = nI j11 ∧ j11 < 16 ∧ (∃ (d12 : Nat) (P12 : Int64 → zIM → zLM → Prop), d12 + 1 ≤ 900 ∧ zCl l G d12 mX4_whole [.ref 14] I9 L9 P12 ∧ ∀ (y12 : Int64) (I12 : zIM) (L12 : zLM), P12 y12 I12 L12 → (∃ (d13 : Nat) (P13 : Int64 → zIM → zLM → Prop), d13 + 1 ≤ 900 ∧ zCl l G d13 mX8_lowest [.long (L9 15 j11), .long y12, .int x3] I12 L12 P13 ∧ ∀ (y13 : Int64) (I13 : zIM) (L13 : zLM), P13 y13 I13 L13 → (qC (sPrt A (12 ^ vB v) x3) v o I L y13 I13 L13))))) ∧ (nI wh = (1 : Int32) → (∃ (d14 : Nat) (P14 : Int64 → zIM → zLM → Prop), d14 + 1 ≤ 900 ∧ zCl l G d14 mX4_leftOf [.ref 14, .int (nI p)] I9 L9 P14 ∧ ∀ (y14 : Int64) (I14 : zIM) (L14 : zLM), P14 y14 I14 L14 → (∃ (d15 : Nat) (P15 : Int64 → zIM → zLM → Prop), d15 + 1 ≤ 900 ∧ zCl l G d15 mX4_whole [.ref 14] I14 L14 P15 ∧ ∀ (y15 : Int64) (I15 : zIM) (L15 : zLM), P15 y15 I15 L15 → (∃ (d16 : Nat) (P16 : Int64 → zIM → zLM → Prop), d16 + 1 ≤ 900 ∧ zCl l G d16 mX8_lowest [.long y14, .long y15, .int x3] I15 L15 P16 ∧ ∀ (y16 : Int64) (I16 : zIM) (L16 : zLM), P16 y16 I16 L16 → (qC (sPrt A (12 ^ vB v) x3) v o I L y16 I16 L16))))))))) ∧ (nI wh = 0 → (∃ (d17 : Nat) (P17 : Int64 → zIM → zLM → Prop), d17 + 1 ≤ 900 ∧ zCl l G d17 mX8_worthNow [.ref 0, .int (nI p)] I7 L7 P17 ∧ ∀ (y17 : Int64) (I17 : zIM) (L17 : zLM), P17 y17 I17 L17 → (∃ (d18 : Nat) (P18 : Int64 → zIM → zLM → Prop), d18 + 1 ≤ 900 ∧ zCl l G d18 mX4_whole [.ref 14] I17 L17 P18 ∧ ∀ (y18 : Int64) (I18 : zIM) (L18 : zLM), P18 y18 I18 L18 → (∃ (d19 : Nat) (P19 : Int64 → zIM → zLM → Prop), d19 + 1 ≤ 900 ∧ zCl l G d19 mX8_lowest [.long y17, .long y18, .int x3] I18 L18 P19 ∧ ∀ (y19 : Int64) (I19 : zIM) (L19 : zLM), P19 y19 I19 L19 → (qC (sPrt A (12 ^ vB v) x3) v o I L y19 I19 L19))))))) →
      zCl l G 900 mX8_worth [.ref 0, .int (nI p), .int (nI wh), .int x3] I L (qC (sPrt A (12 ^ vB v) x3) v o I L) := fun A h =>
    t_X8_worth (bBt 0 (cHasB _ hv hG) (by omega) h1 ⟨fun c => absurd c i1_0, fun _ => bBt 0 (cWithin8 _ 2 (by omega)) (by omega) h2 ⟨fun c => absurd c i1_0, fun _ => bBt 0 (cWithin8 _ 1 (by omega)) (by omega) h3 ⟨fun _ => ⟨8, _, by omega, cSolve hv hF hG hLw hNm (Nat.le_refl 8), h⟩, fun c => absurd c i1_0⟩⟩⟩)
  rcases (by omega : wh = 0 ∨ wh = 1 ∨ wh = 2) with rfl | rfl | rfl
  · obtain ⟨A, a1, a2⟩ := sBeg_nat (v := v) (o := o) (p := p) hv h12 (by omega)
    refine ⟨sPrt A (12 ^ vB v) x3, C A fun I7 L7 hq => ⟨fun c => absurd rfl c, fun _ => bL 2 (cNow hv (hq.2.2.2.1.gG hG) hq.1 hp (Nat.le_refl 2)) (by omega) (cLowW hv (hq.2.2.2.1.gG hG) a1 a2 hq.2.2.2.1.up hq.2.2.2.2.up hq.num (by omega))⟩, fun I1 L1 hR1 _ _ => t_X9_worth (bBt 1 (cIsPlayer9 _ hn hR1.2.2.2.1.1 (by omega)) (by omega) h1 ⟨fun c => absurd c i1_0, fun _ => bBt 0 (cWithin9 _ 0 2 (by omega) (by omega)) (by omega) h2 ⟨fun c => absurd c i1_0, fun _ => bBt 0 (cWithin9 _ 0 1 (by omega) (by omega)) (by omega) h3 ⟨fun _ => ⟨fun c => absurd rfl c, fun _ => ⟨106, _, by omega, mWorthV hv hR1.2.2.2.1 hR1.2.2.2.2.1 hp (Nat.le_refl 106), ?_⟩⟩, fun c => absurd c i1_0⟩⟩⟩)⟩
    rintro y I2 L2 ⟨rfl, k1, k2, k3⟩
    rw [a1]
    exact mPartV hv hR1.2.2.2.1 a2 hpart k1 k2 k3 (by omega)
  · have hbd := sVj_bd (v := v) (o := o) (g := fun _ s => gIn p s) hv h12 (fun t s _ => by show gIn p s ≤ 9; unfold gIn; split <;> omega)
    refine ⟨sPrt (sVj v o (fun _ s => gIn p s) (spSt v)) (12 ^ vB v) x3, C _ fun I7 L7 hq => ⟨fun _ => cSvSp hv hG hF hLw hNm hq (by omega) fun L9 k1 k2 k3 k4 ⟨E, T, e1, e2, e3, e4⟩ => ⟨fun c => absurd rfl c, fun _ => bL 0 (cLeft (by omega) e1) (by omega) (cLowW hv k1 (by rw [e3 (gIn p) _ (Hm_V hv)]) hbd k2 k3 k4 (by omega))⟩, fun c => absurd c i1_0⟩, fun I1 L1 hR1 _ _ => t_X9_worth (bBt 1 (cIsPlayer9 _ hn hR1.2.2.2.1.1 (by omega)) (by omega) h1 ⟨fun c => absurd c i1_0, fun _ => bBt 0 (cWithin9 _ 0 2 (by omega) (by omega)) (by omega) h2 ⟨fun c => absurd c i1_0, fun _ => bBt 0 (cWithin9 _ 0 1 (by omega) (by omega)) (by omega) h3 ⟨fun _ => ⟨fun _ => ⟨106, _, by omega, mValue (x1 := nI 1 - (1 : Int32)) hv hR1.2.2.2.1 hR1.2.2.2.2.1 (aEnd0 (p := p) (by omega)) (fun z => absurd z (by omega)) (Nat.le_refl 106), ?_⟩, fun c => absurd c i1_0⟩, fun c => absurd c i1_0⟩⟩⟩)⟩
    rintro y I2 L2 ⟨rfl, k1, k2, k3⟩
    exact mPartV hv hR1.2.2.2.1 hbd hpart k1 k2 k3 (by omega)
  · have hbd := sVj_bd (v := v) (o := o) (g := fun _ s => if s = 2 ^ p then 1 else 0) hv h12 (fun t s _ => by show (if s = 2 ^ p then 1 else 0) ≤ 9; split <;> omega)
    obtain ⟨q1, q2⟩ := b_one p (by omega)
    refine ⟨sPrt (sVj v o (fun _ s => if s = 2 ^ p then 1 else 0) (spSt v)) (12 ^ vB v) x3, C _ fun I7 L7 hq => ⟨fun _ => cSvSp hv hG hF hLw hNm hq (by omega) fun L9 k1 k2 k3 k4 ⟨E, T, e1, e2, e3, e4⟩ => ⟨fun _ => ⟨2 ^ p, q1, q2, cLowW hv k1 ?_ hbd k2 k3 k4 (by omega)⟩, fun c => absurd c (by decide)⟩, fun c => absurd c (by decide)⟩, fun I1 L1 hR1 _ _ => t_X9_worth (bBt 1 (cIsPlayer9 _ hn hR1.2.2.2.1.1 (by omega)) (by omega) h1 ⟨fun c => absurd c i1_0, fun _ => bBt 0 (cWithin9 _ 0 2 (by omega) (by omega)) (by omega) h2 ⟨fun c => absurd c i1_0, fun _ => bBt 0 (cWithin9 _ 0 1 (by omega) (by omega)) (by omega) h3 ⟨fun _ => ⟨fun _ => ⟨106, _, by omega, mValue (x1 := nI 2 - (1 : Int32)) hv hR1.2.2.2.1 hR1.2.2.2.2.1 (aEnd1 (p := p) (by omega)) (fun z => absurd z (by omega)) (Nat.le_refl 106), ?_⟩, fun c => absurd c (by decide)⟩, fun c => absurd c i1_0⟩⟩⟩)⟩
    · rw [e1 _ q2, ← e3 (fun s => if s = 2 ^ p then 1 else 0) _ (Hm_V hv), (sS_one 16 0).1 ⟨Nat.zero_le _, by omega⟩]
    · rintro y I2 L2 ⟨rfl, k1, k2, k3⟩
      exact mPartV hv hR1.2.2.2.1 hbd hpart k1 k2 k3 (by omega)
theorem s_just (x1 x2 : Int32) : zStepL l G mX8_just mX9_just [.int x1, .int x2] := by
  refine zStepL_of fun v o nb I L hR => ?_
  obtain ⟨hv, hG, hF, hM, hLw, hNm, -⟩ := id hR
  have hn := hv.1
  have hb := hv.2.1
  have h16 := vAll16 hv
  have h12 : ∀ t m a b, a < 4 → sNum v o t m a b ≤ 12 := fun t m a b ha => sNum_le hv hLw ha
  have em1 : (-1 : Int32).toInt = -1 := by decide
  have mw : ∀ (I1 : zIM) (L1 : zLM), zCi l G 0 mX9_within [.long (x1.toInt64), .long (-1 : Int64), .long ((nI (bAll (vn v))).toInt64)] I1 L1 (zB (x1 = -1 ∨ iN x1 0 (bAll (vn v))) I1 L1) := by
    intro I1 L1
    have e0 : (x1.toInt64 < (-1 : Int64) ↔ x1.toInt < -1) := by rw [Int64.lt_iff_toInt_lt, Int32.toInt_toInt64, show (-1 : Int64).toInt = -1 from by decide]
    have e1 : ((nI (bAll (vn v))).toInt64 < x1.toInt64 ↔ (bAll (vn v) : Int) < x1.toInt) := by rw [Int64.lt_iff_toInt_lt, Int32.toInt_toInt64, Int32.toInt_toInt64, nI_toInt (by omega)]
    refine t_X9_within ⟨fun c => zB.n fun h => ?_, fun c => ⟨fun c2 => zB.n fun h => ?_, fun c2 => zB.y ?_⟩⟩
    · rw [e0] at c
      rcases h with h | h
      · rw [h, em1] at c; omega
      · rw [iN_iff (by omega)] at h; omega
    · rw [e1] at c2
      rcases h with h | h
      · rw [h, em1] at c2; omega
      · rw [iN_iff (by omega)] at h; omega
    · rw [e0] at c
      rw [e1] at c2
      by_cases z : x1.toInt = -1
      · exact Or.inl (Int32.toInt_inj.mp (by rw [z, em1]))
      · exact Or.inr (by rw [iN_iff (by omega)]; omega)
  by_cases h1 : x1 = -1 ∨ iN x1 0 (bAll (vn v))
  rotate_left
  · refine ⟨-9223372036854775808, t_X8_just ⟨fun _ => qC.of rfl hNm, fun c => bE 0 (cAll hv hG) (by omega) ⟨fun _ => qC.of rfl hNm, fun c2 => absurd ?_ h1⟩⟩, fun I1 L1 hR1 _ _ => t_X9_just (bE 0 (cAll9 hn hR1.2.2.2.1.1) (by omega) (bBf 0 (mw I1 L1) (by omega) h1 ⟨fun _ => qM.of rfl, fun c => absurd rfl c⟩))⟩
    rw [Int32.lt_iff_toInt_lt, em1] at c
    rw [Int32.lt_iff_toInt_lt, nI_toInt (by omega)] at c2
    by_cases z : x1.toInt = -1
    · exact Or.inl (Int32.toInt_inj.mp (by rw [z, em1]))
    · exact Or.inr (by rw [iN_iff (by omega)]; omega)
  have c1 : ¬ x1 < (-1 : Int32) ∧ ¬ nI (bAll (vn v)) < x1 := by
    rw [Int32.lt_iff_toInt_lt, em1, Int32.lt_iff_toInt_lt, nI_toInt (by omega)]
    rcases h1 with h | h
    · rw [h, em1]; omega
    · rw [iN_iff (by omega)] at h; omega
  by_cases h2 : iN x2 0 1
  rotate_left
  · exact ⟨-9223372036854775808, t_X8_just ⟨fun c => absurd c c1.1, fun _ => bE 0 (cAll hv hG) (by omega) ⟨fun c => absurd c c1.2, fun _ => bBf 0 (cWithin8 _ 1 (by omega)) (by omega) h2 ⟨fun c => absurd rfl c, fun _ => qC.of rfl hNm⟩⟩⟩, fun I1 L1 hR1 _ _ => t_X9_just (bE 0 (cAll9 hn hR1.2.2.2.1.1) (by omega) (bBt 0 (mw I1 L1) (by omega) h1 ⟨fun c => absurd c i1_0, fun _ => bBf 0 (cWithin9 _ 0 1 (by omega) (by omega)) (by omega) h2 ⟨fun c => absurd rfl c, fun _ => qM.of rfl⟩⟩))⟩
  have hpart := i01 h2
  by_cases hm : x1 = -1
  · have hbd := sVj_bd (v := v) (o := o) (g := fun t _ => t) hv h12 (fun t s h => h)
    refine ⟨sPrt (sVj v o (fun t _ => t) (spSt v)) (12 ^ vB v) x2, t_X8_just ⟨fun c => absurd c c1.1, fun _ => bE 0 (cAll hv hG) (by omega) ⟨fun c => absurd c c1.2, fun _ => bBt 0 (cWithin8 _ 1 (by omega)) (by omega) h2 ⟨fun _ => ⟨8, _, by omega, cSolve hv hF hG hLw hNm (Nat.le_refl 8), fun I7 L7 hq => cSvSp hv hG hF hLw hNm hq (by omega) fun L9 k1 k2 k3 k4 ⟨E, T, e1, e2, e3, e4⟩ => ⟨fun c => absurd hm c, fun _ => cLowW hv k1 (by rw [e2, e4 _ (Hm_V hv)]) hbd k2 k3 k4 (by omega)⟩⟩, fun c => absurd c i1_0⟩⟩⟩, fun I1 L1 hR1 _ _ => t_X9_just (bE 0 (cAll9 hn hR1.2.2.2.1.1) (by omega) (bBt 0 (mw I1 L1) (by omega) h1 ⟨fun c => absurd c i1_0, fun _ => bBt 0 (cWithin9 _ 0 1 (by omega) (by omega)) (by omega) h2 ⟨fun _ => ⟨fun c => absurd hm c, fun _ => ⟨106, _, by omega, mValue (x1 := (3 : Int32)) hv hR1.2.2.2.1 hR1.2.2.2.2.1 aEnd3 (fun z => ⟨fun _ => rfl, fun c => absurd c (by decide)⟩) (Nat.le_refl 106), ?_⟩⟩, fun c => absurd c i1_0⟩⟩))⟩
    rintro y I2 L2 ⟨rfl, k1, k2, k3⟩
    exact mPartV hv hR1.2.2.2.1 hbd hpart k1 k2 k3 (by omega)
  · obtain ⟨q, -, hq16, rfl⟩ : iN x1 0 (bAll (vn v)) := h1.elim (fun z => absurd z hm) id
    have hbd := sVj_bd (v := v) (o := o) (g := fun _ s => if s = q then 1 else 0) hv h12 (fun t s _ => by show (if s = q then 1 else 0) ≤ 9; split <;> omega)
    refine ⟨sPrt (sVj v o (fun _ s => if s = q then 1 else 0) (spSt v)) (12 ^ vB v) x2, t_X8_just ⟨fun c => absurd c c1.1, fun _ => bE 0 (cAll hv hG) (by omega) ⟨fun c => absurd c c1.2, fun _ => bBt 0 (cWithin8 _ 1 (by omega)) (by omega) h2 ⟨fun _ => ⟨8, _, by omega, cSolve hv hF hG hLw hNm (Nat.le_refl 8), fun I7 L7 hq => cSvSp hv hG hF hLw hNm hq (by omega) fun L9 k1 k2 k3 k4 ⟨E, T, e1, e2, e3, e4⟩ => ⟨fun _ => ⟨q, rfl, by omega, cLowW hv k1 ?_ hbd k2 k3 k4 (by omega)⟩, fun c => absurd c hm⟩⟩, fun c => absurd c i1_0⟩⟩⟩, fun I1 L1 hR1 _ _ => t_X9_just (bE 0 (cAll9 hn hR1.2.2.2.1.1) (by omega) (bBt 0 (mw I1 L1) (by omega) h1 ⟨fun c => absurd c i1_0, fun _ => bBt 0 (cWithin9 _ 0 1 (by omega) (by omega)) (by omega) h2 ⟨fun _ => ⟨fun _ => ⟨106, _, by omega, mValue (x1 := (2 : Int32)) hv hR1.2.2.2.1 hR1.2.2.2.2.1 (aEnd2 (q := q) (by omega)) (fun z => ?_) (Nat.le_refl 106), ?_⟩, fun c => absurd c hm⟩, fun c => absurd c i1_0⟩⟩))⟩
    · rw [e1 _ (by omega), ← e3 (fun s => if s = q then 1 else 0) _ (Hm_V hv), (sS_one 16 0).1 ⟨Nat.zero_le _, by omega⟩]
    · rw [z] at hq16
      have : q = 0 := by
        have h : bAll 0 = 0 := by decide
        omega
      subst this
      exact ⟨fun c => absurd rfl c, fun _ => rfl⟩
    · rintro y I2 L2 ⟨rfl, k1, k2, k3⟩
      exact mPartV hv hR1.2.2.2.1 hbd hpart k1 k2 k3 (by omega)
end WJ
