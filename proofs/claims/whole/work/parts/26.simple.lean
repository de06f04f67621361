/-! ===== public calls: prize, of, count, image, anew, back ===== -/
theorem zB_t {p : Prop} {y : Int32} (h : y = 1 ∧ p ∨ y = 0 ∧ ¬ p) (hp : p) : y = 1 := h.elim (fun z => z.1) (fun z => absurd hp z.2)
theorem zB_f {p : Prop} {y : Int32} (h : y = 1 ∧ p ∨ y = 0 ∧ ¬ p) (hp : ¬ p) : y = 0 := h.elim (fun z => absurd z.2 hp) (fun z => z.1)
theorem sFol_congr {v v' : Vw} (h1 : vn v' = vn v) (h2 : vO v' = vO v) (h3 : vP v' = vP v) (p s : Nat) : ∀ f k, sFol v' p s f k = sFol v p s f k
  | 0, k => rfl
  | f + 1, k => by
    unfold sFol
    rw [h1, h2, h3, sFol_congr h1 h2 h3 p s f (k + 1)]
theorem vFol_congr {v v' : Vw} (h1 : vn v' = vn v) (h2 : vO v' = vO v) (h3 : vP v' = vP v) (p s : Nat) : vFol v' p s = vFol v p s := by
  unfold vFol
  rw [h1]
  exact sFol_congr h1 h2 h3 p s _ _
theorem cF_congr {v v' : Vw} {I : zIM} (h1 : vn v' = vn v) (h2 : vO v' = vO v) (h3 : vP v' = vP v) (h : cF v I) : cF v' I := by
  intro p hp s hs
  rw [vFol_congr h1 h2 h3]
  exact h p (by rw [← h1]; exact hp) s hs
theorem sFirst_congr {v v' : Vw} (h2 : vO v' = vO v) (s : Nat) : ∀ f k, sFirst v' s f k = sFirst v s f k
  | 0, k => rfl
  | f + 1, k => by
    unfold sFirst
    rw [h2, sFirst_congr h2 s f (k + 1)]
def vPz (v : Vw) (m k : Nat) : Vw := (vn v, vH v, vY v, vT v, vO v, vP v, vB v, wU (vZ v) m k)
section PB
variable {l : Launch} {G : zG}
theorem s_prize (x1 x2 : Int32) : zStep l G mX8_prize mX9_prize [.int x1, .int x2] := by
  rintro I L ⟨v, o, nb, hv, hG, hF, hM, hLw, hNm, hTp, hDd, hIm, hCh, hBd, hTr, hSh⟩
  have hR : Rel I L := ⟨v, o, nb, hv, hG, hF, hM, hLw, hNm, hTp, hDd, hIm, hCh, hBd, hTr, hSh⟩
  by_cases h1 : iN x1 1 4
  · by_cases h2 : iN x2 0 9
    · obtain ⟨m, m1, m2, rfl⟩ := h1
      obtain ⟨k, k1, k2, rfl⟩ := h2
      refine ⟨fun y I' L' => nI (vZ v m) = y ∧ xI I 7 m (nI k) = I' ∧ L = L', ?_, ?_⟩
      · refine t_X8_prize ⟨fun c => absurd c (nI_nlt (b := 1) m1 (by omega)), fun _ => ⟨fun c => absurd c (nI_nlt (a := 4) m2 (by decide)), fun _ => ⟨0, _, by decide, cWithin8 (nI k) 9 (by decide), ?_⟩⟩⟩
        rintro y _ _ ⟨hy, rfl, rfl⟩
        obtain rfl := zB_t hy ⟨k, k1, k2, rfl⟩
        exact ⟨fun _ => ⟨m, rfl, by omega, (hG.2.2.2.2.2.2.2 m (by omega)).symm, rfl, rfl⟩, fun c => absurd c (by decide)⟩
      · rintro _ _ _ ⟨rfl, rfl, rfl⟩
        refine t_X9_prize ⟨0, _, by decide, cWithin9 (nI m) 1 4 (by decide) (by decide), ?_⟩
        rintro y _ _ ⟨hy, rfl, rfl⟩
        obtain rfl := zB_t hy ⟨m, m1, m2, rfl⟩
        refine ⟨fun c => absurd c (by decide), fun _ => ⟨0, _, by decide, cWithin9 (nI k) 0 9 (by decide) (by decide), ?_⟩⟩
        rintro y _ _ ⟨hy, rfl, rfl⟩
        obtain rfl := zB_t hy ⟨k, k1, k2, rfl⟩
        refine ⟨fun _ => ⟨m, rfl, by omega, ?_, ?_⟩, fun c => absurd c (by decide)⟩
        · exact ((xI_ne (by omega)).trans (hM.2.2.2.2.2.2.2.1 m (by omega))).symm
        · refine ⟨vPz v m k, o, nb, ⟨hv.1, hv.2.1, hv.2.2.1, hv.2.2.2.1, hv.2.2.2.2.1, hv.2.2.2.2.2.1, fun q hq => ?_, hv.2.2.2.2.2.2.2⟩, ⟨hG.1, hG.2.1, hG.2.2.1, hG.2.2.2.1, hG.2.2.2.2.1, hG.2.2.2.2.2.1, hG.2.2.2.2.2.2.1, fun q hq => ?_⟩, cF_congr (v := v) rfl rfl rfl hF, ⟨hM.1, hM.2.1, hM.2.2.1, hM.2.2.2.1, hM.2.2.2.2.1, hM.2.2.2.2.2.1, hM.2.2.2.2.2.2.1, fun q hq => ?_, hM.2.2.2.2.2.2.2.2⟩, hLw.off rfl (fun _ => rfl) rfl (fun _ => rfl), ?_, hTp.off rfl rfl (fun a b h => by rw [xI_ne (by omega), xI_ne (by omega)]), hDd.off (fun _ _ => rfl) (fun _ _ _ => rfl), hIm.off (fun _ _ _ => rfl) (fun _ _ _ => rfl), hCh.off (Nat.le_refl _) rfl rfl rfl rfl (fun a b h => by rw [xI_ne (by omega), xI_ne (by omega)]), hBd.off rfl rfl (fun a b h => by rw [xI_ne (by omega), xI_ne (by omega)]), hTr.off rfl rfl (fun a b h => by rw [xI_ne (by omega), xI_ne (by omega)]), hSh.off (Nat.le_refl _) (fun a b h => by rw [xI_ne (by omega), xI_ne (by omega)]) (fun _ _ _ => rfl)⟩
          · show wU (vZ v) m k q ≤ 9
            unfold wU; split
            · exact k2
            · exact hv.2.2.2.2.2.2.1 q hq
          · show _ = nI (wU (vZ v) m k q)
            rw [xI_ne (by omega)]
            by_cases e : q = m
            · subst e; rw [xI_eq, wU_eq]
            · rw [xI_ne (by omega), wU_ne e]; exact hG.2.2.2.2.2.2.2 q hq
          · show _ = nI (wU (vZ v) m k q)
            by_cases e : q = m
            · subst e; rw [xI_eq, wU_eq]
            · rw [xI_ne (by omega), xI_ne (by omega), wU_ne e]; exact hM.2.2.2.2.2.2.2.1 q hq
          · have h : rNum v o (xI (xI I 7 m (nI k)) 51 m (nI k)) := hNm.off rfl (fun _ => rfl)
            cases o <;> exact h
    · refine ⟨fun y I' L' => -1 = y ∧ I = I' ∧ L = L', ?_, ?_⟩
      · refine t_X8_prize ⟨fun c => ⟨rfl, rfl, rfl⟩, fun _ => ⟨fun c => ⟨rfl, rfl, rfl⟩, fun _ => ⟨0, _, by decide, cWithin8 x2 9 (by decide), ?_⟩⟩⟩
        rintro y _ _ ⟨hy, rfl, rfl⟩
        obtain rfl := zB_f hy h2
        exact ⟨fun c => absurd rfl c, fun _ => ⟨rfl, rfl, rfl⟩⟩
      · rintro _ _ _ ⟨rfl, rfl, rfl⟩
        refine t_X9_prize ⟨0, _, by decide, cWithin9 x1 1 4 (by decide) (by decide), ?_⟩
        rintro y _ _ ⟨hy, rfl, rfl⟩
        refine ⟨fun _ => ⟨rfl, hR⟩, fun _ => ⟨0, _, by decide, cWithin9 x2 0 9 (by decide) (by decide), ?_⟩⟩
        rintro y _ _ ⟨hy, rfl, rfl⟩
        obtain rfl := zB_f hy h2
        exact ⟨fun c => absurd rfl c, fun _ => ⟨rfl, hR⟩⟩
  · have e1 : x1 < 1 ∨ 4 < x1 := by
      rw [iN_iff (by decide)] at h1
      rw [Int32.lt_iff_toInt_lt, Int32.lt_iff_toInt_lt, show (1 : Int32).toInt = 1 from rfl, show (4 : Int32).toInt = 4 from rfl]
      omega
    refine ⟨fun y I' L' => -1 = y ∧ I = I' ∧ L = L', ?_, ?_⟩
    · exact t_X8_prize ⟨fun c => ⟨rfl, rfl, rfl⟩, fun n1 => ⟨fun c => ⟨rfl, rfl, rfl⟩, fun n2 => absurd e1 (fun z => z.elim n1 n2)⟩⟩
    · rintro _ _ _ ⟨rfl, rfl, rfl⟩
      refine t_X9_prize ⟨0, _, by decide, cWithin9 x1 1 4 (by decide) (by decide), ?_⟩
      rintro y _ _ ⟨hy, rfl, rfl⟩
      obtain rfl := zB_f hy h1
      exact ⟨fun _ => ⟨rfl, hR⟩, fun c => absurd rfl c⟩
theorem s_count (x : Int32) : zStep l G mX8_count mX9_count [.int x] := by
  rintro I L ⟨v, o, nb, hv, hG, hF, hM, hLw, hNm, hTp, hDd, hIm, hCh, hBd, hTr, hSh⟩
  have hR : Rel I L := ⟨v, o, nb, hv, hG, hF, hM, hLw, hNm, hTp, hDd, hIm, hCh, hBd, hTr, hSh⟩
  obtain ⟨n1, -, t1, t2, -⟩ := hTp
  obtain ⟨s1, s2, s3, -, d1, d2, d3, d4, d5, d6⟩ := hDd
  obtain ⟨dn, kp, -, -, e1, e2, -⟩ := hCh
  obtain ⟨-, b1, b2, -⟩ := hBd
  obtain ⟨n2, -, r1, r2, -⟩ := hTr
  refine ⟨fun y I' L' => (I = I' ∧ L = L') ∧ (x = 0 → y = I 1 6) ∧ (x = 1 → y = I 20 0) ∧ (x = 2 → y = I 20 1) ∧ (x = 3 → y = I 9 0) ∧ (x = 4 → y = I 22 4) ∧ (x = 5 → y = I 27 1) ∧ (x = 6 → y = I 27 3) ∧ (¬ x = 0 → ¬ x = 1 → ¬ x = 2 → ¬ x = 3 → ¬ x = 4 → ¬ x = 5 → ¬ x = 6 → y = -1), ?_, ?_⟩
  · refine t_X8_count ⟨?_, ?_, ?_, ?_, ?_, ?_, ?_, ?_⟩
    · rintro rfl; exact ⟨⟨rfl, rfl⟩, fun _ => rfl, fun c => absurd c (by decide), fun c => absurd c (by decide), fun c => absurd c (by decide), fun c => absurd c (by decide), fun c => absurd c (by decide), fun c => absurd c (by decide), fun c => absurd rfl c⟩
    · rintro rfl; exact ⟨⟨rfl, rfl⟩, fun c => absurd c (by decide), fun _ => rfl, fun c => absurd c (by decide), fun c => absurd c (by decide), fun c => absurd c (by decide), fun c => absurd c (by decide), fun c => absurd c (by decide), fun _ c => absurd rfl c⟩
    · rintro rfl; exact ⟨⟨rfl, rfl⟩, fun c => absurd c (by decide), fun c => absurd c (by decide), fun _ => rfl, fun c => absurd c (by decide), fun c => absurd c (by decide), fun c => absurd c (by decide), fun c => absurd c (by decide), fun _ _ c => absurd rfl c⟩
    · rintro rfl; exact ⟨⟨rfl, rfl⟩, fun c => absurd c (by decide), fun c => absurd c (by decide), fun c => absurd c (by decide), fun _ => rfl, fun c => absurd c (by decide), fun c => absurd c (by decide), fun c => absurd c (by decide), fun _ _ _ c => absurd rfl c⟩
    · rintro rfl; exact ⟨⟨rfl, rfl⟩, fun c => absurd c (by decide), fun c => absurd c (by decide), fun c => absurd c (by decide), fun c => absurd c (by decide), fun _ => rfl, fun c => absurd c (by decide), fun c => absurd c (by decide), fun _ _ _ _ c => absurd rfl c⟩
    · rintro rfl; exact ⟨⟨rfl, rfl⟩, fun c => absurd c (by decide), fun c => absurd c (by decide), fun c => absurd c (by decide), fun c => absurd c (by decide), fun c => absurd c (by decide), fun _ => rfl, fun c => absurd c (by decide), fun _ _ _ _ _ c => absurd rfl c⟩
    · rintro rfl; exact ⟨⟨rfl, rfl⟩, fun c => absurd c (by decide), fun c => absurd c (by decide), fun c => absurd c (by decide), fun c => absurd c (by decide), fun c => absurd c (by decide), fun c => absurd c (by decide), fun _ => rfl, fun _ _ _ _ _ _ c => absurd rfl c⟩
    · intro c0 c1 c2 c3 c4 c5 c6; exact ⟨⟨rfl, rfl⟩, fun c => absurd c c0, fun c => absurd c c1, fun c => absurd c c2, fun c => absurd c c3, fun c => absurd c c4, fun c => absurd c c5, fun c => absurd c c6, fun _ _ _ _ _ _ _ => rfl⟩
  · rintro y _ _ ⟨⟨rfl, rfl⟩, h0, h1, h2, h3, h4, h5, h6, h7⟩
    exact t_X9_count ⟨fun c => ⟨(h0 c).trans (hG.1.trans hM.1.symm), hR⟩, fun c => ⟨(h1 c).trans (d1.trans d4.symm), hR⟩, fun c => ⟨(h2 c).trans (d2.trans d5.symm), hR⟩, fun c => ⟨(h3 c).trans (t1.trans t2.symm), hR⟩, fun c => ⟨(h4 c).trans (e1.trans e2.symm), hR⟩, fun c => ⟨(h5 c).trans (b1.trans b2.symm), hR⟩, fun c => ⟨(h6 c).trans (r1.trans r2.symm), hR⟩, fun c0 c1 c2 c3 c4 c5 c6 => ⟨h7 c0 c1 c2 c3 c4 c5 c6, hR⟩⟩
end PB
