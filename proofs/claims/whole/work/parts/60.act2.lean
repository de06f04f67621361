/-! ===== act: the reference; the public call ===== -/
def aV (K b n : Nat) (I : zIM) : Prop := I 44 43 = nI n ∧ I 44 44 = nI K ∧ I 44 45 = nI b ∧ K < 8
theorem aV.tm {K b n : Nat} {I : zIM} (h : aV K b n I) (cs : List Int32) : aV K b (n + cs.length) (tM cs n I) :=
  ⟨tM_ran cs n I h.1, (tM_off cs n I _ _ (by omega) (by omega)).trans h.2.1, (tM_off cs n I _ _ (by omega) (by omega)).trans h.2.2.1, h.2.2.2⟩
section MA
variable {l : Launch} {G : zG} {d : Nat} {I : zIM} {L : zLM} {K b n : Nat}
theorem mBegins (c : Int32) (hr : I 44 43 = nI n) (hn : n < 900) : zCv l G d mX9_begins [.ref 44, .int c] I L (zU (tM [c] n I) L) := by
  refine t_X9_begins ⟨fun c2 => ⟨?_, rfl⟩, fun c2 => ⟨n, hr, ?_, ?_, rfl⟩⟩
  · rw [hr] at c2
    have : 24 ≤ n := (nI_le_iff (a := 24) (by omega) (by omega)).mp c2
    show xI (if n < 24 then xI I 64 n c else I) 44 43 (nI (n + 1)) = _
    rw [if_neg (by omega), hr, nI_1]
  · rw [hr] at c2
    exact Nat.not_le.mp fun z => c2 (nI_le (a := 24) z (by omega))
  · rw [hr] at c2
    have : n < 24 := Nat.not_le.mp fun z => c2 (nI_le (a := 24) z (by omega))
    show xI (if n < 24 then xI I 64 n c else I) 44 43 (nI (n + 1)) = _
    rw [if_pos this, hr, nI_1]
theorem i_k {k m : Nat} (hk : k < 8) (hm : m < 8) : nI k = nI m ↔ k = m := nI_eq_iff (by omega) (by omega)
theorem mA (x : Int32) {k : Nat} (hw : aV K b n I) (hk : k < 8) (hn : n < 800) (hd : 4 ≤ d) : zCi l G d mX9_aimsAs [.ref 44, .int (nI k), .int x] I L (zF (wA (nI b) k x) (tM (lA k) n I) L) := by
  have base : ∀ {d k n} {I : zIM}, aV K b n I → k < 8 → n < 850 → ¬ k = 1 → ¬ k = 4 → ¬ k = 7 → ¬ k = 6 → 1 ≤ d → zCi l G d mX9_aimsAs [.ref 44, .int (nI k), .int x] I L (zF (x + nI b) (tM [1] n I) L) := by
    intro d k n I hw hk hn e1 e4 e7 e6 hd
    refine t_X9_aimsAs ⟨fun c => absurd ((i_k (m := 1) hk (by omega)).mp c) e1, fun _ => ⟨fun c => absurd ((i_k (m := 4) hk (by omega)).mp c) e4, fun _ => ⟨fun _ => ⟨fun _ => bV 0 (mBegins 1 hw.1 (by omega)) (by omega) ⟨?_, rfl, rfl⟩, fun c => absurd ((i_k (m := 6) hk (by omega)).mp c) e6⟩, fun c => absurd ((i_k (m := 7) hk (by omega)).mp c) e7⟩⟩⟩
    rw [(hw.tm [1]).2.2.1]
  have up : ∀ c : Int32, (∃ (d3 : Nat) (P3 : Int32 → zIM → zLM → Prop), d3 + 1 ≤ d ∧ zCi l G d3 mX9_aimsAs [.ref 44, .int (0 : Int32), .int x] (tM [c] n I) L P3 ∧ ∀ (y3 : Int32) (I3 : zIM) (L3 : zLM), P3 y3 I3 L3 → (x + nI b = y3 ∧ tM [c, 1] n I = I3 ∧ L = L3)) := fun c =>
    bF 1 (base (k := 0) (hw.tm [c]) (by omega) (by show n + 1 < 850; omega) (by omega) (by omega) (by omega) (by omega) (by omega)) (by omega) ⟨rfl, rfl, rfl⟩
  by_cases h1 : k = 1 ∨ k = 4 ∨ k = 7
  · rw [lA, if_pos h1, wA, if_pos h1]
    have go : ∃ (d2 : Nat) (P2 : zIM → zLM → Prop), d2 + 1 ≤ d ∧ zCv l G d2 mX9_begins [.ref 44, .int (20 : Int32)] I L P2 ∧ ∀ (I2 : zIM) (L2 : zLM), P2 I2 L2 → (∃ (d3 : Nat) (P3 : Int32 → zIM → zLM → Prop), d3 + 1 ≤ d ∧ zCi l G d3 mX9_aimsAs [.ref 44, .int (0 : Int32), .int x] I2 L2 P3 ∧ ∀ (y3 : Int32) (I3 : zIM) (L3 : zLM), P3 y3 I3 L3 → (zF (x + nI b + 3) (tM [20, 1] n I) L (y3 + (3 : Int32)) I3 L3)) := by
      refine bV 0 (mBegins 20 hw.1 (by omega)) (by omega) ?_
      obtain ⟨d3, P3, q1, q2, q3⟩ := up 20
      refine ⟨d3, P3, q1, q2, fun y3 I3 L3 h => ?_⟩
      obtain ⟨r1, r2, r3⟩ := q3 y3 I3 L3 h
      exact ⟨by rw [r1], r2, r3⟩
    refine t_X9_aimsAs ⟨fun _ => go, fun c1 => ⟨fun _ => go, fun c4 => ⟨fun c7 => ?_, fun _ => go⟩⟩⟩
    rcases h1 with rfl | rfl | rfl
    · exact absurd rfl c1
    · exact absurd rfl c4
    · exact absurd rfl c7
  · have e1 : ¬ k = 1 := fun z => h1 (Or.inl z)
    have e4 : ¬ k = 4 := fun z => h1 (Or.inr (Or.inl z))
    have e7 : ¬ k = 7 := fun z => h1 (Or.inr (Or.inr z))
    by_cases h6 : k = 6
    · rw [lA, if_neg h1, if_pos h6, wA, if_neg h1, if_pos h6]
      refine t_X9_aimsAs ⟨fun c => absurd ((i_k (m := 1) hk (by omega)).mp c) e1, fun _ => ⟨fun c => absurd ((i_k (m := 4) hk (by omega)).mp c) e4, fun _ => ⟨fun _ => ⟨fun c => absurd (by rw [h6]; rfl) c, fun _ => bV 0 (mBegins 70 hw.1 (by omega)) (by omega) ?_⟩, fun c => absurd ((i_k (m := 7) hk (by omega)).mp c) e7⟩⟩⟩
      obtain ⟨d3, P3, q1, q2, q3⟩ := up 70
      refine ⟨d3, P3, q1, q2, fun y3 I3 L3 h => ?_⟩
      obtain ⟨r1, r2, r3⟩ := q3 y3 I3 L3 h
      exact ⟨by rw [r1], r2, r3⟩
    · rw [lA, if_neg h1, if_neg h6, wA, if_neg h1, if_neg h6]
      exact base hw hk (by omega) e1 e4 e7 h6 (by omega)
theorem mAo (x : Int32) (hw : aV K b n I) (hn : n < 800) (hd : 4 ≤ d) : zCi l G d mX9_aimsAs [.ref 44, .int (I 44 44), .int x] I L (zF (wA (nI b) K x) (tM (lA K) n I) L) := by
  rw [hw.2.1]
  exact mA x hw hw.2.2.2 hn hd
theorem mH (x : Int32) {k : Nat} (hw : aV K b n I) (hk : k < 8) (hn : n < 700) (hd : 8 ≤ d) : zCi l G d mX9_hitsAs [.ref 44, .int (nI k), .int x] I L (zF (wH (nI b) K k x) (tM (lH K k) n I) L) := by
  have base : ∀ {d k n} {I : zIM}, aV K b n I → k < 8 → n < 850 → ¬ k = 3 → ¬ k = 5 → ¬ k = 4 → ¬ k = 7 → 1 ≤ d → zCi l G d mX9_hitsAs [.ref 44, .int (nI k), .int x] I L (zF (x ^^^ nI b) (tM [11] n I) L) := by
    intro d k n I hw hk hn e3 e5 e4 e7 hd
    refine t_X9_hitsAs ⟨fun c => absurd ((i_k (m := 3) hk (by omega)).mp c) e3, fun _ => ⟨fun _ => ⟨fun c => absurd ((i_k (m := 4) hk (by omega)).mp c) e4, fun _ => ⟨fun _ => bV 0 (mBegins 11 hw.1 (by omega)) (by omega) ⟨?_, rfl, rfl⟩, fun c => absurd ((i_k (m := 7) hk (by omega)).mp c) e7⟩⟩, fun c => absurd ((i_k (m := 5) hk (by omega)).mp c) e5⟩⟩
    rw [(hw.tm [11]).2.2.1]
  have g3 : ∃ (d2 : Nat) (P2 : zIM → zLM → Prop), d2 + 1 ≤ d ∧ zCv l G d2 mX9_begins [.ref 44, .int (40 : Int32)] I L P2 ∧ ∀ (I2 : zIM) (L2 : zLM), P2 I2 L2 → (∃ (d3 : Nat) (P3 : Int32 → zIM → zLM → Prop), d3 + 1 ≤ d ∧ zCi l G d3 mX9_hitsAs [.ref 44, .int (2 : Int32), .int x] I2 L2 P3 ∧ ∀ (y3 : Int32) (I3 : zIM) (L3 : zLM), P3 y3 I3 L3 → (zF ((x ^^^ nI b) * 3) (tM [40, 11] n I) L (y3 * (3 : Int32)) I3 L3)) :=
    bV 0 (mBegins 40 hw.1 (by omega)) (by omega) (bF 1 (base (k := 2) (hw.tm [40]) (by omega) (by show n + 1 < 850; omega) (by omega) (by omega) (by omega) (by omega) (by omega)) (by omega) ⟨rfl, rfl, rfl⟩)
  have g4 : ∃ (d6 : Nat) (P6 : zIM → zLM → Prop), d6 + 1 ≤ d ∧ zCv l G d6 mX9_begins [.ref 44, .int (50 : Int32)] I L P6 ∧ ∀ (I6 : zIM) (L6 : zLM), P6 I6 L6 → (∃ (d7 : Nat) (P7 : Int32 → zIM → zLM → Prop), d7 + 1 ≤ d ∧ zCi l G d7 mX9_hitsAs [.ref 44, .int (1 : Int32), .int x] I6 L6 P7 ∧ ∀ (y7 : Int32) (I7 : zIM) (L7 : zLM), P7 y7 I7 L7 → (∃ (d8 : Nat) (P8 : Int32 → zIM → zLM → Prop), d8 + 1 ≤ d ∧ zCi l G d8 mX9_aimsAs [.ref 44, .int (I7 44 44), .int (2 : Int32)] I7 L7 P8 ∧ ∀ (y8 : Int32) (I8 : zIM) (L8 : zLM), P8 y8 I8 L8 → (zF ((x ^^^ nI b) - wA (nI b) K 2) (tM ([50, 11] ++ lA K) n I) L (y7 - y8) I8 L8))) := by
    rw [tM_app]
    exact bV 0 (mBegins 50 hw.1 (by omega)) (by omega) (bF 1 (base (k := 1) (hw.tm [50]) (by omega) (by show n + 1 < 850; omega) (by omega) (by omega) (by omega) (by omega) (by omega)) (by omega) (bF 4 (mAo 2 (hw.tm [50, 11]) (by show n + 2 < 800; omega) (by omega)) (by omega) ⟨rfl, rfl, rfl⟩))
  by_cases h3 : k = 3 ∨ k = 5
  · rw [lH, if_pos h3, wH, if_pos h3]
    refine t_X9_hitsAs ⟨fun _ => g3, fun c3 => ⟨fun c5 => ?_, fun _ => g3⟩⟩
    rcases h3 with rfl | rfl
    · exact absurd rfl c3
    · exact absurd rfl c5
  · have e3 : ¬ k = 3 := fun z => h3 (Or.inl z)
    have e5 : ¬ k = 5 := fun z => h3 (Or.inr z)
    by_cases h4 : k = 4 ∨ k = 7
    · rw [lH, if_neg h3, if_pos h4, wH, if_neg h3, if_pos h4]
      refine t_X9_hitsAs ⟨fun c => absurd ((i_k (m := 3) hk (by omega)).mp c) e3, fun _ => ⟨fun _ => ⟨fun _ => g4, fun c4 => ⟨fun c7 => ?_, fun _ => g4⟩⟩, fun c => absurd ((i_k (m := 5) hk (by omega)).mp c) e5⟩⟩
      rcases h4 with rfl | rfl
      · exact absurd rfl c4
      · exact absurd rfl c7
    · rw [lH, if_neg h3, if_neg h4, wH, if_neg h3, if_neg h4]
      exact base hw hk (by omega) e3 e5 (fun z => h4 (Or.inl z)) (fun z => h4 (Or.inr z)) (by omega)
theorem mHo (x : Int32) (hw : aV K b n I) (hn : n < 700) (hd : 8 ≤ d) : zCi l G d mX9_hitsAs [.ref 44, .int (I 44 44), .int x] I L (zF (wH (nI b) K K x) (tM (lH K K) n I) L) := by
  rw [hw.2.1]
  exact mH x hw hw.2.2.2 hn hd
theorem mT (x : Int32) {k : Nat} (hw : aV K b n I) (hk : k < 8) (hn : n < 600) (hd : 16 ≤ d) : zCi l G d mX9_throwsAs [.ref 44, .int (nI k), .int x] I L (zF (wT (nI b) K k x) (tM (lT K k) n I) L) := by
  have len := l_len K hw.2.2.2
  have base : ∀ {d k n} {I : zIM} (x : Int32), aV K b n I → k < 8 → n < 650 → ¬ k = 3 → ¬ k = 5 → ¬ k = 2 → ¬ k = 7 → 5 ≤ d → zCi l G d mX9_throwsAs [.ref 44, .int (nI k), .int x] I L (zF (wT0 (nI b) K x) (tM (lT0 K) n I) L) := by
    intro d k n I x hw hk hn e3 e5 e2 e7 hd
    exact t_X9_throwsAs ⟨fun c => absurd ((i_k (m := 3) hk (by omega)).mp c) e3, fun _ => ⟨fun _ => ⟨fun _ => ⟨fun _ => bV 0 (mBegins 10 hw.1 (by omega)) (by omega) (bF 4 (mAo x (hw.tm [10]) (by show n + 1 < 800; omega) (by omega)) (by omega) ⟨rfl, rfl, rfl⟩), fun c => absurd ((i_k (m := 7) hk (by omega)).mp c) e7⟩, fun c => absurd ((i_k (m := 2) hk (by omega)).mp c) e2⟩, fun c => absurd ((i_k (m := 5) hk (by omega)).mp c) e5⟩⟩
  have air : ∀ {d n} {I : zIM} (x : Int32), aV K b n I → n < 640 → 6 ≤ d → zCi l G d mX9_throwsAs [.ref 44, .int (nI 2), .int x] I L (zF (-(wT0 (nI b) K x)) (tM (30 :: lT0 K) n I) L) := by
    intro d n I x hw hn hd
    exact t_X9_throwsAs ⟨fun c => absurd c (by decide), fun _ => ⟨fun _ => ⟨fun c => absurd rfl c, fun _ => bV 0 (mBegins 30 hw.1 (by omega)) (by omega) (bF 5 (base (k := 0) x (hw.tm [30]) (by omega) (by show n + 1 < 650; omega) (by omega) (by omega) (by omega) (by omega) (by omega)) (by omega) ⟨rfl, rfl, rfl⟩)⟩, fun c => absurd c (by decide)⟩⟩
  have g3 : ∃ (d2 : Nat) (P2 : zIM → zLM → Prop), d2 + 1 ≤ d ∧ zCv l G d2 mX9_begins [.ref 44, .int (41 : Int32)] I L P2 ∧ ∀ (I2 : zIM) (L2 : zLM), P2 I2 L2 → (∃ (d3 : Nat) (P3 : Int32 → zIM → zLM → Prop), d3 + 1 ≤ d ∧ zCi l G d3 mX9_throwsAs [.ref 44, .int (2 : Int32), .int (x + (1 : Int32))] I2 L2 P3 ∧ ∀ (y3 : Int32) (I3 : zIM) (L3 : zLM), P3 y3 I3 L3 → (zF (-(wT0 (nI b) K (x + 1))) (tM (41 :: 30 :: lT0 K) n I) L y3 I3 L3)) :=
    bV 0 (mBegins 41 hw.1 (by omega)) (by omega) (bF 6 (air (x + 1) (hw.tm [41]) (by show n + 1 < 640; omega) (by omega)) (by omega) ⟨rfl, rfl, rfl⟩)
  by_cases h3 : k = 3 ∨ k = 5
  · rw [lT, if_pos h3, wT, if_pos h3]
    refine t_X9_throwsAs ⟨fun _ => g3, fun c3 => ⟨fun c5 => ?_, fun _ => g3⟩⟩
    rcases h3 with rfl | rfl
    · exact absurd rfl c3
    · exact absurd rfl c5
  · have e3 : ¬ k = 3 := fun z => h3 (Or.inl z)
    have e5 : ¬ k = 5 := fun z => h3 (Or.inr z)
    by_cases h2 : k = 2
    · subst h2
      rw [lT, if_neg h3, if_pos rfl, wT, if_neg h3, if_pos rfl]
      exact air x hw (by omega) (by omega)
    · by_cases h7 : k = 7
      · have e1 : tM (80 :: (lT0 K ++ lH K K)) n I = tM (lH K K) (n + 1 + (lT0 K).length) (tM (lT0 K) (n + 1) (tM [80] n I)) := tM_app (lT0 K) (lH K K) (n + 1) _
        have hl : (lT0 K).length ≤ 60 := (len 0 (by omega)).2.2.1
        rw [lT, if_neg h3, if_neg h2, if_pos h7, wT, if_neg h3, if_neg h2, if_pos h7, e1]
        exact t_X9_throwsAs ⟨fun c => absurd ((i_k (m := 3) hk (by omega)).mp c) e3, fun _ => ⟨fun _ => ⟨fun _ => ⟨fun c => absurd (by rw [h7]; rfl) c, fun _ => bV 0 (mBegins 80 hw.1 (by omega)) (by omega) (bF 5 (base (k := 4) x (hw.tm [80]) (by omega) (by show n + 1 < 650; omega) (by omega) (by omega) (by omega) (by omega) (by omega)) (by omega) (bF 8 (mHo 2 ((hw.tm [80]).tm (lT0 K)) (by show n + 1 + (lT0 K).length < 700; omega) (by omega)) (by omega) ⟨rfl, rfl, rfl⟩))⟩, fun c => absurd ((i_k (m := 2) hk (by omega)).mp c) h2⟩, fun c => absurd ((i_k (m := 5) hk (by omega)).mp c) e5⟩⟩
      · rw [lT, if_neg h3, if_neg h2, if_neg h7, wT, if_neg h3, if_neg h2, if_neg h7]
        exact base x hw hk (by omega) e3 e5 h2 h7 (by omega)
theorem mTo (x : Int32) (hw : aV K b n I) (hn : n < 600) (hd : 16 ≤ d) : zCi l G d mX9_throwsAs [.ref 44, .int (I 44 44), .int x] I L (zF (wT (nI b) K K x) (tM (lT K K) n I) L) := by
  rw [hw.2.1]
  exact mT x hw hw.2.2.2 hn hd
theorem mTe (x : Int32) {k : Nat} (hw : aV K b n I) (hk : k < 8) (hn : n < 500) (hd : 30 ≤ d) : zCi l G d mX9_tellsAs [.ref 44, .int (nI k), .int x] I L (zF (wL (nI b) K k x) (tM (lL K k) n I) L) := by
  have len := l_len K hw.2.2.2 K hw.2.2.2
  have base : ∀ {d k n} {I : zIM}, aV K b n I → k < 8 → n < 520 → ¬ k = 5 → ¬ k = 7 → 20 ≤ d → zCi l G d mX9_tellsAs [.ref 44, .int (nI k), .int x] I L (zF (wL0 (nI b) K x) (tM (lL0 K) n I) L) := by
    intro d k n I hw hk hn e5 e7 hd
    have e1 : tM (lL0 K) n I = tM (lH K K) (n + 1 + (lT K K).length) (tM (lT K K) (n + 1) (tM [2] n I)) := tM_app (lT K K) (lH K K) (n + 1) _
    rw [e1]
    exact t_X9_tellsAs ⟨fun _ => ⟨fun _ => bV 0 (mBegins 2 hw.1 (by omega)) (by omega) (bF 16 (mTo x (hw.tm [2]) (by show n + 1 < 600; omega) (by omega)) (by omega) (bF 8 (mHo 1 ((hw.tm [2]).tm (lT K K)) (by show n + 1 + (lT K K).length < 700; omega) (by omega)) (by omega) ⟨rfl, rfl, rfl⟩)), fun c => absurd ((i_k (m := 7) hk (by omega)).mp c) e7⟩, fun c => absurd ((i_k (m := 5) hk (by omega)).mp c) e5⟩
  by_cases h5 : k = 5
  · rw [lL, if_pos h5, wL, if_pos h5]
    exact t_X9_tellsAs ⟨fun c => absurd (by rw [h5]; rfl) c, fun _ => bV 0 (mBegins 60 hw.1 (by omega)) (by omega) (bF 20 (base (k := 3) (hw.tm [60]) (by omega) (by show n + 1 < 520; omega) (by omega) (by omega) (by omega)) (by omega) ⟨rfl, rfl, rfl⟩)⟩
  · by_cases h7 : k = 7
    · rw [lL, if_neg h5, if_pos h7, wL, if_neg h5, if_pos h7]
      exact t_X9_tellsAs ⟨fun _ => ⟨fun c => absurd (by rw [h7]; rfl) c, fun _ => bV 0 (mBegins 81 hw.1 (by omega)) (by omega) (bF 20 (base (k := 4) (hw.tm [81]) (by omega) (by show n + 1 < 520; omega) (by omega) (by omega) (by omega)) (by omega) ⟨rfl, rfl, rfl⟩)⟩, fun c => absurd ((i_k (m := 5) hk (by omega)).mp c) h5⟩
    · rw [lL, if_neg h5, if_neg h7, wL, if_neg h5, if_neg h7]
      exact base hw hk (by omega) h5 h7 (by omega)
theorem mIsBody (x : Int32) {nb : Nat} (hb : nb ≤ 50) (h : I 44 40 = nI nb) (hd : 1 ≤ d) : zCi l G d mX9_isBody [.ref 44, .int x] I L (zB (iP x nb) I L) := by
  refine t_X9_isBody ?_
  rw [h]
  exact bB 0 (cWithinM9 x (by omega)) (by omega) (fun e => ⟨Or.inr rfl, zB.y e⟩) (fun e => ⟨Or.inl rfl, zB.n e⟩)
end MA
section SC
variable {l : Launch} {G : zG}
/-- after an act: scratch, the trace -/
theorem RelV.act {v : Vw} {o : Lw} {nb : Nat} {I I2 : zIM} {L : zLM} (h : RelV v o nb I L) (k : ∀ a b, a ≠ 29 → a ≠ 64 → ¬ (a = 27 ∧ (b = 3 ∨ b = 4)) → ¬ (a = 44 ∧ (b = 43 ∨ b = 44 ∨ b = 45)) → I2 a b = I a b) (hT : rTr I2) : Rel I2 L := by
  obtain ⟨hv, hG, hF, hM, hLw, hNm, hTp, hDd, hIm, hCh, hBd, hTr, hSh⟩ := h
  have kk : ∀ a b, a ≠ 29 ∧ a ≠ 64 ∧ ¬ (a = 27 ∧ (b = 3 ∨ b = 4)) ∧ ¬ (a = 44 ∧ (b = 43 ∨ b = 44 ∨ b = 45)) → I2 a b = I a b := fun a b ⟨q1, q2, q3, q4⟩ => k a b q1 q2 q3 q4
  exact ⟨v, o, nb, hv, hG.off (fun a b _ _ => kk a b (by omega)), hF.off (fun b => kk 8 b (by omega)), hM.off (kk _ _ (by omega)) (kk _ _ (by omega)) (fun a b h => kk a b (by omega)), hLw.off (kk _ _ (by omega)) (fun b => kk 12 b (by omega)) (kk _ _ (by omega)) (fun b => kk 54 b (by omega)), hNm.off (kk _ _ (by omega)) (fun b => kk 19 b (by omega)), hTp.off (kk _ _ (by omega)) (kk _ _ (by omega)) (fun a b h => kk a b (by omega)), hDd.off (fun b hb => kk 20 b (by omega)) (fun b h1 h2 => kk 44 b (by omega)), hIm.off (fun b h1 h2 => kk 20 b (by omega)) (fun b h1 h2 => kk 44 b (by omega)), hCh.off (Nat.le_refl _) (kk _ _ (by omega)) (kk _ _ (by omega)) (kk _ _ (by omega)) (kk _ _ (by omega)) (fun a b h => kk a b (by omega)), hBd.off (kk _ _ (by omega)) (kk _ _ (by omega)) (fun a b h => kk a b (by omega)), hT, hSh.off (Nat.le_refl _) (fun a b h => kk a b (by omega)) (fun a b h => rfl)⟩
theorem s_act (x1 x2 x3 : Int32) : zStep l G mX8_act mX9_act [.int x1, .int x2, .int x3] := by
  rintro I L ⟨v, o, nb, hR⟩
  have hR : RelV v o nb I L := hR
  obtain ⟨hb50, hb1, hb2, hb3⟩ := hR.2.2.2.2.2.2.2.2.2.2.1
  have r0 : ∀ J : zIM, J 27 3 = 0 → J 44 43 = 0 → rTr J := fun J h1 h2 => ⟨0, by omega, h1.trans nI_0.symm, h2.trans nI_0.symm, fun i hi => absurd hi (Nat.not_lt_zero _)⟩
  have ip : iP x1 nb ↔ ¬ x1 < 0 ∧ ¬ nI nb ≤ x1 := by
    rw [iP_iff (by omega), Int32.lt_iff_toInt_lt, Int32.toInt_zero, Int32.le_iff_toInt_le, nI_toInt (by omega)]
    omega
  have ia : (¬ x2 < 0 ∧ x2 < 4) ↔ ∃ a, a < 4 ∧ x2 = nI a := by
    constructor
    · rintro ⟨h1, h2⟩
      exact nI_within (n := 4) h1 (Int32.not_le.mpr h2) (by omega)
    · rintro ⟨a, ha, rfl⟩
      exact ⟨nI_pos (by omega), nI_lt (b := 4) ha (by omega)⟩
  by_cases h1 : iP x1 nb
  rotate_left
  · refine ⟨zF 0 (xI I 27 3 (0 : Int32)) L, t_X8_act ⟨899, _, by omega, t_X6_doAct ⟨fun _ => ⟨rfl, rfl, rfl⟩, fun c1 => ⟨fun _ => ⟨rfl, rfl, rfl⟩, fun c2 => absurd (ip.mpr ⟨c1, by rw [← hb1]; exact c2⟩) h1⟩⟩, fun _ _ _ h => h⟩, ?_⟩
    rintro _ _ _ ⟨rfl, rfl, rfl⟩
    refine t_X9_act (bBf 1 (mIsBody x1 hb50 (show xI (xI I 27 3 (0 : Int32)) 44 43 (0 : Int32) 44 40 = nI nb from by rw [xI_ne (by omega), xI_ne (by omega)]; exact hb2) (by omega)) (by omega) h1 ⟨fun c => absurd rfl c, fun _ => ⟨rfl, ?_⟩⟩)
    exact hR.act (fun a b q1 q2 q3 q4 => by rw [xI_ne (by omega), xI_ne (by omega)]) (r0 _ ((xI_ne (by omega)).trans xI_eq) xI_eq)
  obtain ⟨j, hj, rfl⟩ := id h1
  obtain ⟨K, hK, k1, k2⟩ := hb3 j hj
  have ip' := ip.mp h1
  by_cases h2 : ∃ a, a < 4 ∧ x2 = nI a
  rotate_left
  · refine ⟨zF 0 (xI I 27 3 (0 : Int32)) L, t_X8_act ⟨899, _, by omega, t_X6_doAct ⟨fun c => absurd c ip'.1, fun _ => ⟨fun c => absurd (by rw [← hb1]; exact c) ip'.2, fun _ => ⟨fun _ => ⟨rfl, rfl, rfl⟩, fun c => ⟨fun c2 => absurd (ia.mp ⟨c, c2⟩) h2, fun _ => ⟨rfl, rfl, rfl⟩⟩⟩⟩⟩, fun _ _ _ h => h⟩, ?_⟩
    rintro _ _ _ ⟨rfl, rfl, rfl⟩
    refine t_X9_act (bBt 1 (mIsBody (nI j) hb50 (show xI (xI I 27 3 (0 : Int32)) 44 43 (0 : Int32) 44 40 = nI nb from by rw [xI_ne (by omega), xI_ne (by omega)]; exact hb2) (by omega)) (by omega) h1 ⟨fun _ => ⟨j, rfl, by omega, fun c => absurd ⟨0, by omega, c⟩ h2, fun c => absurd ⟨1, by omega, c⟩ h2, fun c => absurd ⟨2, by omega, c⟩ h2, fun c => absurd ⟨3, by omega, c⟩ h2, fun _ _ _ _ => ⟨rfl, ?_⟩⟩, fun c => absurd c i1_0⟩)
    exact hR.act (fun a b q1 q2 q3 q4 => by rw [xI_ne (by omega), xI_ne (by omega), xI_ne (by omega), xI_ne (by omega)]) (r0 _ (by rw [xI_ne (by omega), xI_ne (by omega), xI_ne (by omega)]; exact xI_eq) (by rw [xI_ne (by omega), xI_ne (by omega)]; exact xI_eq))
  obtain ⟨a, ha, rfl⟩ := id h2
  have ia' := ia.mpr h2
  have hw : aW K j 0 (xI (xI I 27 3 (0 : Int32)) 27 4 (nI j)) := ⟨by rw [xI_ne (by omega), xI_eq, nI_0], xI_eq, by omega, by rw [xI_ne (by omega), xI_ne (by omega)]; exact k1, hK⟩
  refine ⟨zF (wX (nI j) K a x3) (tC (lX K a) 0 (xI (xI I 27 3 (0 : Int32)) 27 4 (nI j))) L, t_X8_act ⟨899, _, by omega, t_X6_doAct ⟨fun c => absurd c ip'.1, fun _ => ⟨fun c => absurd (by rw [← hb1]; exact c) ip'.2, fun _ => ⟨fun c => absurd c ia'.1, fun _ => ⟨fun _ => bF 60 (cAct x3 ha hw (Nat.le_refl 60)) (by omega) ⟨rfl, rfl, rfl⟩, fun c => absurd ia'.2 c⟩⟩⟩⟩, fun _ _ _ h => h⟩, ?_⟩
  rintro _ J _ ⟨rfl, eJ, rfl⟩
  have oJ : ∀ p q, p ≠ 29 → ¬ (p = 27 ∧ (q = 3 ∨ q = 4)) → J p q = I p q := fun p q q1 q2 => by
    rw [← eJ, tC_off _ _ _ _ _ q1 (by omega), xI_ne (by omega), xI_ne (by omega)]
  have e63 : xI J 44 43 (0 : Int32) 63 j = nI K := by rw [xI_ne (by omega), oJ _ _ (by omega) (by omega)]; exact k2
  have hV : aV K j 0 (xI (xI (xI J 44 43 (0 : Int32)) 44 44 (nI K)) 44 45 (nI j)) := ⟨by rw [xI_ne (by omega), xI_ne (by omega), xI_eq, nI_0], by rw [xI_ne (by omega)]; exact xI_eq, xI_eq, hK⟩
  have fin : ∀ y I2 L2, zF (wX (nI j) K a x3) (tM (lX K a) 0 (xI (xI (xI J 44 43 (0 : Int32)) 44 44 (nI K)) 44 45 (nI j))) L y I2 L2 → wX (nI j) K a x3 = y ∧ Rel I2 L2 := by
    rintro y I2 L2 ⟨e1, e2, e3⟩
    subst e1; subst e2; subst e3
    have hlen : (lX K a).length ≤ 60 := by
      have := l_len K hK K hK
      unfold lX
      split
      · exact this.1
      · split
        · exact this.2.2.1
        · split
          · exact this.2.1
          · exact this.2.2.2
    refine ⟨rfl, hR.act (fun p q q1 q2 q3 q4 => by rw [tM_off _ _ _ _ _ q2 (by omega), xI_ne (by omega), xI_ne (by omega), xI_ne (by omega)]; exact oJ p q q1 q3) ⟨(lX K a).length, by omega, ?_, ?_, fun i hi h24 => ?_⟩⟩
    · rw [tM_off _ _ _ _ _ (by omega) (by omega), xI_ne (by omega), xI_ne (by omega), xI_ne (by omega), ← eJ, tC_ran _ 0 _ hw.1, Nat.zero_add]
    · rw [tM_ran _ 0 _ hV.1, Nat.zero_add]
    · have h1 := t_same (lX K a) 0 (xI (xI I 27 3 (0 : Int32)) 27 4 (nI j)) (xI (xI (xI J 44 43 (0 : Int32)) 44 44 (nI K)) 44 45 (nI j)) (fun i hi => absurd hi (Nat.not_lt_zero _)) i (by omega) h24
      rw [← h1, tM_off _ _ _ _ _ (by omega) (by omega), xI_ne (by omega), xI_ne (by omega), xI_ne (by omega), eJ]
  refine zCi_mono ?_ fin
  refine t_X9_act (bBt 1 (mIsBody (nI j) hb50 ((xI_ne (by omega)).trans ((oJ _ _ (by omega) (by omega)).trans hb2)) (by omega)) (by omega) h1 ⟨fun _ => ⟨j, rfl, by omega, ?_⟩, fun c => absurd c i1_0⟩)
  rw [e63]
  rcases (by omega : a = 0 ∨ a = 1 ∨ a = 2 ∨ a = 3) with rfl | rfl | rfl | rfl
  · exact ⟨fun _ => bF 60 (mA x3 hV hK (by omega) (by omega)) (by omega) ⟨rfl, rfl, rfl⟩, fun c => absurd c (by decide), fun c => absurd c (by decide), fun c => absurd c (by decide), fun c => absurd rfl c⟩
  · exact ⟨fun c => absurd c (by decide), fun _ => bF 60 (mT x3 hV hK (by omega) (by omega)) (by omega) ⟨rfl, rfl, rfl⟩, fun c => absurd c (by decide), fun c => absurd c (by decide), fun _ c => absurd rfl c⟩
  · exact ⟨fun c => absurd c (by decide), fun c => absurd c (by decide), fun _ => bF 60 (mH x3 hV hK (by omega) (by omega)) (by omega) ⟨rfl, rfl, rfl⟩, fun c => absurd c (by decide), fun _ _ c => absurd rfl c⟩
  · exact ⟨fun c => absurd c (by decide), fun c => absurd c (by decide), fun c => absurd c (by decide), fun _ => bF 60 (mTe x3 hV hK (by omega) (by omega)) (by omega) ⟨rfl, rfl, rfl⟩, fun _ _ _ c => absurd rfl c⟩
end SC
