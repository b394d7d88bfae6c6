/-! ===== the house: its cells, by their places behind z ===== -/
abbrev sh (z f : Nat) : Nat := z + 2 + 17 * f
def FHo (w : Fw) (z chg day ids : Nat) (bad wrk : Int32) : Prop := w z = some (.inr (.inr (6, [.ref (z + 1), .ref (z + 104), .ref (z + 106), .ref (z + 142), .ref (z + 145), .int (nI chg), .int (nI day), .int (nI ids), .int bad, .int wrk])))
def SAr (w : Fw) (z : Nat) : Prop := ∃ φ : Nat → Option Nat, w (z + 1) = some (.inr (.inl (0, 6, φ))) ∧ ∀ f, f < 6 → φ f = some (sh z f)
def Tp (w : Fw) (a tn : Nat) (τ : Nat → Nat) : Prop := tn ≤ 40 ∧ ∃ T, w a = some (.inr (.inr (5, [.int (nI tn), .ref (a + 1)]))) ∧ w (a + 1) = some (.inl (40, T)) ∧ Nn tn T τ 256
def Rt (w : Fw) (a : Nat) : Prop := ∃ (ρ : Nat → Option Nat) (Z : Nat → Nat → Int32) (D : Nat → Int32), w a = some (.inr (.inr (3, [.ref (a + 1), .ref (a + 35)]))) ∧ w (a + 1) = some (.inr (.inl (1, 33, ρ))) ∧ (∀ i, i < 33 → ρ i = some (a + 2 + i)) ∧ (∀ i, i < 33 → w (a + 2 + i) = some (.inl (33, Z i))) ∧ w (a + 35) = some (.inl (32, D))
def CW (w : Fw) (z : Nat) (n : Nat → Nat) (β ι : Nat → Nat → Nat) (M : Nat → List Fnd) (ℓ : List Lg) (tn : Nat) (τ : Nat → Nat) (chg day ids : Nat) (bad wrk : Int32) : Prop :=
  FHo w z chg day ids bad wrk ∧ SAr w z ∧ (∀ f, f < 6 → SG w (sh z f) (n f) (β f) (ι f) (M f)) ∧ Tp w (z + 104) tn τ ∧ Rt w (z + 106) ∧ (∃ F O, Ck w (z + 142) F O) ∧ LgL w (z + 145) ℓ
theorem Tp.frame {w w' : Fw} {a tn : Nat} {τ : Nat → Nat} (h : Tp w a tn τ) (he : ∀ q, a ≤ q → q < a + 2 → w' q = w q) : Tp w' a tn τ := by
  obtain ⟨h0, T, h1, h2, h3⟩ := h
  exact ⟨h0, T, by rw [he _ (by omega) (by omega)]; exact h1, by rw [he _ (by omega) (by omega)]; exact h2, h3⟩
theorem Rt.frame {w w' : Fw} {a : Nat} (h : Rt w a) (he : ∀ q, a ≤ q → q < a + 36 → w' q = w q) : Rt w' a := by
  obtain ⟨ρ, Z, D, h1, h2, h3, h4, h5⟩ := h
  exact ⟨ρ, Z, D, by rw [he _ (by omega) (by omega)]; exact h1, by rw [he _ (by omega) (by omega)]; exact h2, h3, fun i hi => by rw [he _ (by omega) (by omega)]; exact h4 i hi, by rw [he _ (by omega) (by omega)]; exact h5⟩
theorem SAr.frame {w w' : Fw} {z : Nat} (h : SAr w z) (he : w' (z + 1) = w (z + 1)) : SAr w' z := by
  obtain ⟨φ, h1, h2⟩ := h
  exact ⟨φ, by rw [he]; exact h1, h2⟩
theorem FHo.frame {w w' : Fw} {z chg day ids : Nat} {bad wrk : Int32} (h : FHo w z chg day ids bad wrk) (he : w' z = w z) : FHo w' z chg day ids bad wrk := by
  unfold FHo; rw [he]; exact h
theorem CW.frame {w w' : Fw} {z : Nat} {n : Nat → Nat} {β ι : Nat → Nat → Nat} {M : Nat → List Fnd} {ℓ : List Lg} {tn : Nat} {τ : Nat → Nat} {chg day ids : Nat} {bad wrk : Int32} (h : CW w z n β ι M ℓ tn τ chg day ids bad wrk) (he : ∀ q, z ≤ q → q < z + 150 → w' q = w q) : CW w' z n β ι M ℓ tn τ chg day ids bad wrk := by
  obtain ⟨h1, h2, h3, h4, h5, ⟨F, O, h6⟩, h7⟩ := h
  exact ⟨h1.frame (he z (by omega) (by omega)), h2.frame (he _ (by omega) (by omega)), fun f hf => (h3 f hf).frame (fun q q1 q2 => he q (by unfold sh at q1; omega) (by unfold sh at q2; omega)), h4.frame (fun q q1 q2 => he q (by omega) (by omega)), h5.frame (fun q q1 q2 => he q (by omega) (by omega)), ⟨F, O, h6.frame (fun q q1 q2 => he q (by omega) (by omega))⟩, h7.frame (fun q q1 q2 => he q (by omega) (by omega))⟩
section HOUSE
variable {w : Fw} {z : Nat} {n : Nat → Nat} {β ι : Nat → Nat → Nat} {M : Nat → List Fnd} {ℓ : List Lg} {tn : Nat} {τ : Nat → Nat} {chg day ids : Nat} {bad wrk : Int32}
theorem FHo.g0 (h : FHo w z chg day ids bad wrk) : gR w z 6 0 = some (z + 1) := gR_ok h rfl
theorem FHo.g1 (h : FHo w z chg day ids bad wrk) : gR w z 6 1 = some (z + 104) := gR_ok h rfl
theorem FHo.g2 (h : FHo w z chg day ids bad wrk) : gR w z 6 2 = some (z + 106) := gR_ok h rfl
theorem FHo.g3 (h : FHo w z chg day ids bad wrk) : gR w z 6 3 = some (z + 142) := gR_ok h rfl
theorem FHo.g4 (h : FHo w z chg day ids bad wrk) : gR w z 6 4 = some (z + 145) := gR_ok h rfl
theorem FHo.g5 (h : FHo w z chg day ids bad wrk) : gI w z 6 5 = some (nI chg) := gI_ok h rfl
theorem FHo.g6 (h : FHo w z chg day ids bad wrk) : gI w z 6 6 = some (nI day) := gI_ok h rfl
theorem FHo.g7 (h : FHo w z chg day ids bad wrk) : gI w z 6 7 = some (nI ids) := gI_ok h rfl
theorem FHo.g8 (h : FHo w z chg day ids bad wrk) : gI w z 6 8 = some bad := gI_ok h rfl
theorem FHo.g9 (h : FHo w z chg day ids bad wrk) : gI w z 6 9 = some wrk := gI_ok h rfl
theorem FHo.o (h : FHo w z chg day ids bad wrk) : isO w z 6 = some () := isO_ok h
theorem FHo.s5 (h : FHo w z chg day ids bad wrk) (k : Nat) : ∃ w', pF w z 6 5 (.int (nI k)) = some w' ∧ FHo w' z k day ids bad wrk ∧ Out w w' z (z + 1) := ⟨_, pF_ok h (by simp), fup_eq _ _ _, Out.fup (by omega) (by omega)⟩
theorem FHo.s6 (h : FHo w z chg day ids bad wrk) (k : Nat) : ∃ w', pF w z 6 6 (.int (nI k)) = some w' ∧ FHo w' z chg k ids bad wrk ∧ Out w w' z (z + 1) := ⟨_, pF_ok h (by simp), fup_eq _ _ _, Out.fup (by omega) (by omega)⟩
theorem FHo.s7 (h : FHo w z chg day ids bad wrk) (k : Nat) : ∃ w', pF w z 6 7 (.int (nI k)) = some w' ∧ FHo w' z chg day k bad wrk ∧ Out w w' z (z + 1) := ⟨_, pF_ok h (by simp), fup_eq _ _ _, Out.fup (by omega) (by omega)⟩
theorem FHo.s8 (h : FHo w z chg day ids bad wrk) (x : Int32) : ∃ w', pF w z 6 8 (.int x) = some w' ∧ FHo w' z chg day ids x wrk ∧ Out w w' z (z + 1) := ⟨_, pF_ok h (by simp), fup_eq _ _ _, Out.fup (by omega) (by omega)⟩
theorem FHo.s9 (h : FHo w z chg day ids bad wrk) (x : Int32) : ∃ w', pF w z 6 9 (.int x) = some w' ∧ FHo w' z chg day ids bad x ∧ Out w w' z (z + 1) := ⟨_, pF_ok h (by simp), fup_eq _ _ _, Out.fup (by omega) (by omega)⟩
theorem SAr.at (h : SAr w z) {f : Nat} (hf : f < 6) : lR w 0 (z + 1) (nI f) = some (sh z f) := by
  obtain ⟨φ, h1, h2⟩ := h
  exact lR_ok h1 hf (by decide) (h2 f hf)
/-- all but the house's own fields -/
def CW0 (w : Fw) (z : Nat) (n : Nat → Nat) (β ι : Nat → Nat → Nat) (M : Nat → List Fnd) (ℓ : List Lg) (tn : Nat) (τ : Nat → Nat) : Prop :=
  SAr w z ∧ (∀ f, f < 6 → SG w (sh z f) (n f) (β f) (ι f) (M f)) ∧ Tp w (z + 104) tn τ ∧ Rt w (z + 106) ∧ (∃ F O, Ck w (z + 142) F O) ∧ LgL w (z + 145) ℓ
theorem CW0.frame {w' : Fw} (h : CW0 w z n β ι M ℓ tn τ) (he : ∀ q, z + 1 ≤ q → q < z + 150 → w' q = w q) : CW0 w' z n β ι M ℓ tn τ := by
  obtain ⟨h2, h3, h4, h5, ⟨F, O, h6⟩, h7⟩ := h
  exact ⟨h2.frame (he _ (by omega) (by omega)), fun f hf => (h3 f hf).frame (fun q q1 q2 => he q (by unfold sh at q1; omega) (by unfold sh at q2; omega)), h4.frame (fun q q1 q2 => he q (by omega) (by omega)), h5.frame (fun q q1 q2 => he q (by omega) (by omega)), ⟨F, O, h6.frame (fun q q1 q2 => he q (by omega) (by omega))⟩, h7.frame (fun q q1 q2 => he q (by omega) (by omega))⟩
theorem CW0.FO (h : CW0 w z n β ι M ℓ tn τ) : FO w (z + 1) (sh z) n β := by
  intro f hf
  obtain ⟨hn, B, I, ra, rb, M', -, h1, h2, -⟩ := h.2.1 f hf
  exact ⟨h.1.at hf, hn, B, I, ra, rb, h1, h2⟩
end HOUSE
/-- the findings, and the log, once the files of the set s have been worked again -/
def wkM (s : Int32) (n : Nat → Nat) (β ι : Nat → Nat → Nat) (bad ch : Int32) (M : Nat → List Fnd) (f : Nat) : List Fnd := if bt s f then fre (fun r k => ruB n β f bad r k) (ι f) (M f) ch (n f) else M f
def wkL (s : Int32) (n : Nat → Nat) (β ι : Nat → Nat → Nat) (bad ch : Int32) (M : Nat → List Fnd) (ℓ : List Lg) : Nat → List Lg
  | 0 => ℓ
  | f + 1 => if bt s f then (M f).foldl (ends1 (wkM s n β ι bad ch M f) ch) (wkL s n β ι bad ch M ℓ f) else wkL s n β ι bad ch M ℓ f
theorem X6_work_loop {z : Nat} {n : Nat → Nat} {β ι : Nat → Nat → Nat} {M : Nat → List Fnd} {ℓ : List Lg} {tn : Nat} {τ : Nat → Nat} {chg day ids : Nat} {bad wrk : Int32} (s : Int32) : ∀ (m f fuel : Nat) (w : Fw), f + m = 6 → m < fuel → FHo w z chg day ids bad wrk → CW0 w z n β ι (fun g => if g < f then wkM s n β ι bad (nI chg) M g else M g) (wkL s n β ι bad (nI chg) M ℓ f) tn τ → ∃ w', fX6_work_L17 fuel w z s (nI f) = some w' ∧ FHo w' z chg day ids bad wrk ∧ CW0 w' z n β ι (fun g => if g < 6 then wkM s n β ι bad (nI chg) M g else M g) (wkL s n β ι bad (nI chg) M ℓ 6) tn τ ∧ Out w w' (z + 1) (z + 150)
  | m, f, 0, w, q1, q2, hF, h => by omega
  | 0, f, fuel + 1, w, q1, q2, hF, h => by
    have : f = 6 := by omega
    subst this
    rw [fX6_work_L17, if_pos (by decide)]
    exact ⟨w, rfl, hF, h, Out.rf⟩
  | m + 1, f, fuel + 1, w, q1, q2, hF, h => by
    have hf : f < 6 := by omega
    have hle : ¬ (6 : Int32) ≤ nI f := nI_ge (b := 6) hf (by decide)
    rw [fX6_work_L17, if_neg hle, X6_has_q w s (show f < 32 by omega), Option.bind_some]
    by_cases hs : bt s f = true
    · simp only [hs, bz, if_true]
      rw [if_neg (by decide)]
      obtain ⟨h2, h3, h4, h5, ⟨F, O, h6⟩, h7⟩ := id h
      simp only [hF.g3, hF.g0, hF.g8, Option.bind_some, h6.o]
      obtain ⟨w1, F1, O1, e1, c1, c2, o1⟩ := X0_check_q (c := z + 142) (sa := z + 1) (ad := sh z) hf (by omega) (fun g hg => by unfold sh; omega) bad h.FO h6
      have hF1 := hF.frame (w' := w1) (o1 z (by omega))
      have h21 := h2.frame (w' := w1) (o1 _ (by omega))
      have hSG : ∀ g, g < 6 → SG w1 (sh z g) (n g) (β g) (ι g) (if g < f then wkM s n β ι bad (nI chg) M g else M g) := fun g hg => (h3 g hg).frame (fun q y1 y2 => o1 q (by unfold sh at y1 y2; omega))
      simp only [e1, Option.bind_some, hF1.g0, h21.at hf, hF1.g3, hF1.g5, hF1.g4]
      have hSf := hSG f hf
      simp only [Nat.lt_irrefl, if_false] at hSf
      have hl1 := h7.frame (w' := w1) (fun q y1 y2 => o1 q (by omega))
      obtain ⟨-, B, I, ra, rb, M', -, hsh, -⟩ := id hSf
      rw [hsh.o, Option.bind_some]
      obtain ⟨w2, e2, r1, r2, r3⟩ := X4_renew_q (P := fun r k => ruB n β f bad r k) (ι := ι f) (M := M f) (ch := nI chg) (c := z + 142) (g := z + 145) hSf c2 (fun k hk => ruB_one) c1 hl1 (by unfold sh; omega) (by unfold sh; omega)
      rw [e2, Option.bind_some, fX6_work_b68, nI_1]
      have hM2 : ∀ g, (if g < f + 1 then wkM s n β ι bad (nI chg) M g else M g) = if g = f then wkM s n β ι bad (nI chg) M g else if g < f then wkM s n β ι bad (nI chg) M g else M g := fun g => by
        by_cases hgf : g = f
        · subst hgf; simp
        · by_cases hlt : g < f
          · simp [hgf, hlt, show g < f + 1 by omega]
          · simp [hgf, hlt, show ¬ g < f + 1 by omega]
      have hw2 : CW0 w2 z n β ι (fun g => if g < f + 1 then wkM s n β ι bad (nI chg) M g else M g) (wkL s n β ι bad (nI chg) M ℓ (f + 1)) tn τ := by
        refine ⟨h21.frame (r3 _ (by unfold sh; omega) (by omega)), fun g hg => ?_, ?_, ?_, ⟨F1, O1, c1.frame (fun q y1 y2 => r3 q (by unfold sh; omega) (by omega))⟩, ?_⟩
        · show SG w2 (sh z g) (n g) (β g) (ι g) (if g < f + 1 then wkM s n β ι bad (nI chg) M g else M g)
          rw [hM2]
          by_cases hgf : g = f
          · subst hgf
            simp only [if_true]
            have : wkM s n β ι bad (nI chg) M g = fre (fun r k => ruB n β g bad r k) (ι g) (M g) (nI chg) (n g) := by unfold wkM; rw [if_pos hs]
            rw [this]
            exact r1
          · simp only [hgf, if_false]
            exact (hSG g hg).frame (fun q y1 y2 => r3 q (by unfold sh at y1 y2 ⊢; omega) (by unfold sh at y1 y2; omega))
        · exact (h4.frame (fun q y1 y2 => o1 q (by omega))).frame (fun q y1 y2 => r3 q (by unfold sh; omega) (by omega))
        · exact (h5.frame (fun q y1 y2 => o1 q (by omega))).frame (fun q y1 y2 => r3 q (by unfold sh; omega) (by omega))
        · rw [wkL, if_pos hs, wkM, if_pos hs]
          exact r2
      obtain ⟨w3, e3, t1, t2, t3⟩ := X6_work_loop s m (f + 1) fuel w2 (by omega) (by omega) (hF1.frame (r3 z (by unfold sh; omega) (by omega))) hw2
      exact ⟨w3, e3, t1, t2, fun q hq => (t3 q hq).trans ((r3 q (by unfold sh; omega) (by omega)).trans (o1 q (by omega)))⟩
    · simp only [hs, bz]
      rw [if_pos (by decide), fX6_work_b68, nI_1]
      have hw2 : CW0 w z n β ι (fun g => if g < f + 1 then wkM s n β ι bad (nI chg) M g else M g) (wkL s n β ι bad (nI chg) M ℓ (f + 1)) tn τ := by
        have hM2 : (fun g => if g < f + 1 then wkM s n β ι bad (nI chg) M g else M g) = fun g => if g < f then wkM s n β ι bad (nI chg) M g else M g := by
          funext g
          by_cases hgf : g = f
          · subst hgf; simp [wkM, hs]
          · by_cases hlt : g < f
            · simp [hlt, show g < f + 1 by omega]
            · simp [hlt, show ¬ g < f + 1 by omega]
        rw [hM2, wkL, if_neg hs]
        exact h
      exact X6_work_loop s m (f + 1) fuel w (by omega) (by omega) hF hw2
theorem SG_congr {w : Fw} {a n : Nat} {β ι : Nat → Nat} {M M' : List Fnd} (h : SG w a n β ι M) (e : M = M') : SG w a n β ι M' := e ▸ h
theorem X6_work_q {w : Fw} {z : Nat} {n : Nat → Nat} {β ι : Nat → Nat → Nat} {M : Nat → List Fnd} {ℓ : List Lg} {tn : Nat} {τ : Nat → Nat} {chg day ids : Nat} {bad wrk : Int32} (s : Int32) (hF : FHo w z chg day ids bad wrk) (h : CW0 w z n β ι M ℓ tn τ) : ∃ w', fX6_work w z s = some w' ∧ FHo w' z (chg + 1) day ids bad s ∧ CW0 w' z n β ι (wkM s n β ι bad (nI (chg + 1)) M) (wkL s n β ι bad (nI (chg + 1)) M ℓ 6) tn τ ∧ Out w w' z (z + 150) := by
  rw [fX6_work, hF.g5, Option.bind_some, nI_1]
  obtain ⟨w1, e1, f1, o1⟩ := hF.s5 (chg + 1)
  rw [e1, Option.bind_some]
  obtain ⟨w2, e2, f2, o2⟩ := f1.s9 s
  rw [e2, Option.bind_some]
  have o12 := o1.tr o2
  obtain ⟨w3, e3, t1, t2, t3⟩ := X6_work_loop (M := M) (ℓ := ℓ) s 6 0 1000 w2 (by omega) (by omega) f2 (by
    have h9 := h.frame (w' := w2) (fun q y1 y2 => o12 q (by omega))
    simpa [wkL] using h9)
  rw [nI_0] at e3
  refine ⟨w3, e3, t1, ?_, (o12.wide (by omega) (by omega)).tr (t3.wide (by omega) (by omega))⟩
  obtain ⟨a1, a2, a3, a4, a5, a6⟩ := t2
  exact ⟨a1, fun f hf => SG_congr (a2 f hf) (by simp [hf]), a3, a4, a5, a6⟩
theorem X6_importersOf_loop {w : Fw} {z : Nat} {n : Nat → Nat} {β : Nat → Nat → Nat} {chg day ids : Nat} {bad wrk : Int32} (hF : FHo w z chg day ids bad wrk) (h : FO w (z + 1) (sh z) n β) {f : Nat} (hf : f < 6) : ∀ (m g fuel : Nat), g + m = 6 → m < fuel → fX6_importersOf_L4 w fuel z (nI f) (bitsN (fun g => imp (β g) (n g) f) g) (nI g) = some (bitsN (fun g => imp (β g) (n g) f) 6)
  | m, g, 0, q1, q2 => by omega
  | 0, g, fuel + 1, q1, q2 => by
    have : g = 6 := by omega
    subst this
    rw [fX6_importersOf_L4, if_pos (by decide)]
  | m + 1, g, fuel + 1, q1, q2 => by
    have hg : g < 6 := by omega
    have hle : ¬ (6 : Int32) ≤ nI g := nI_ge (b := 6) hg (by decide)
    obtain ⟨hr, hn, B, I, ra, rb, hsh, hβ⟩ := h g hg
    have ih := X6_importersOf_loop hF h hf m (g + 1) fuel (by omega) (by omega)
    rw [fX6_importersOf_L4, if_neg hle]
    simp only [hF.g0, hr, Option.bind_some, hsh.o, X4_importedFiles_q hsh hβ hn, X6_has_q w _ (show f < 32 by omega), bt_imp (show f < 32 by omega), fX6_importersOf_b32, nI_1]
    rw [← ih, bitsN]
    by_cases hi : imp (β g) (n g) f = true <;> simp [hi, bz]
/-- which files a change of file f works again -/
def wset (n : Nat → Nat) (β : Nat → Nat → Nat) (f : Nat) (before : Int32) : Int32 := if nmsN (β f) 1 (n f) = before then (1 : Int32) <<< (nI f &&& 31) else ((1 : Int32) <<< (nI f &&& 31)) ||| bitsN (fun g => imp (β g) (n g) f) 6
theorem X6_settle_q {w : Fw} {z : Nat} {n : Nat → Nat} {β ι : Nat → Nat → Nat} {M : Nat → List Fnd} {ℓ : List Lg} {tn : Nat} {τ : Nat → Nat} {chg day ids : Nat} {bad wrk : Int32} {f : Nat} (hf : f < 6) (before : Int32) (hF : FHo w z chg day ids bad wrk) (h : CW0 w z n β ι M ℓ tn τ) : ∃ w', fX6_settle w z (nI f) before = some w' ∧ FHo w' z (chg + 1) day ids bad (wset n β f before) ∧ CW0 w' z n β ι (wkM (wset n β f before) n β ι bad (nI (chg + 1)) M) (wkL (wset n β f before) n β ι bad (nI (chg + 1)) M ℓ 6) tn τ ∧ Out w w' z (z + 150) := by
  obtain ⟨hr, hn, B, I, ra, rb, hsh, hβ⟩ := h.FO f hf
  have n1 := X4_numbersOf_q hsh hβ hn (kd := 1) (by decide)
  rw [show nI 1 = (1 : Int32) from rfl] at n1
  have hi : fX6_importersOf w z (nI f) = some (bitsN (fun g => imp (β g) (n g) f) 6) := by
    rw [fX6_importersOf]
    exact X6_importersOf_loop hF h.FO hf 6 0 1000 (by omega) (by omega)
  rw [fX6_settle]
  simp only [hF.g0, hr, Option.bind_some, hsh.o, n1, hF.o, hi, fX6_settle_b26]
  obtain ⟨w', e', r1, r2, r3⟩ := X6_work_q (wset n β f before) hF h
  refine ⟨w', ?_, r1, r2, r3⟩
  unfold wset at e'
  by_cases hb : nmsN (β f) 1 (n f) = before
  · rw [if_pos hb] at e' ⊢
    rw [e']; rfl
  · rw [if_neg hb] at e' ⊢
    rw [e']; rfl
