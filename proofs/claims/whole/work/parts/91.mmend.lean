/-! ===== pure: the reference's mends; mend and mended agree ===== -/
def frH (S S' : St) : Prop := ∀ b j, b ≠ 39 → b ≠ 40 → ¬ (b = 0 ∧ j = 70) → gI S' b j = gI S b j
theorem frH_refl (S : St) : frH S S := fun _ _ _ _ _ => rfl
theorem frH_trans {S T U : St} (h : frH S T) (k : frH T U) : frH S U := fun b j a c d => (k b j a c d).trans (h b j a c d)
theorem frH_M {S S' : St} (h : frH S S') : frM S S' := fun b j hb => h b j (fun e => by rw [e] at hb; simp [kM] at hb) (fun e => by rw [e] at hb; simp [kM] at hb) (fun e => by rw [e.1, e.2] at hb; simp [kM] at hb)
def MH (F : Fm) (L : Nat → Nat) (D : Dr) (S : St) : Prop := MG F L false S ∧ ∀ e w, e < F 0 0 → w < F 0 5 → gI S 44 (12 * e + w) = nI (chg F D e w)
theorem MH_fr {F : Fm} {L : Nat → Nat} {D : Dr} {S S' : St} (hf : frH S S') (H : MH F L D S) : MH F L D S' := by
  obtain ⟨⟨h1, h2, h3, h4, -⟩, h6⟩ := H
  refine ⟨⟨?_, ?_, fun w hw => ?_, fun e he => ?_, fun h => by cases h⟩, fun e w he hw => ?_⟩
  · rw [hf 0 10 (by decide) (by decide) (by decide)]; exact h1
  · rw [hf 0 15 (by decide) (by decide) (by decide)]; exact h2
  · rw [hf 6 w (by decide) (by decide) (by simp)]; exact h3 w hw
  · rw [hf 37 e (by decide) (by decide) (by simp)]; exact h4 e he
  · rw [hf 44 _ (by decide) (by decide) (by simp)]; exact h6 e w he hw
/-- b agrees with g below e -/
abbrev agr (g b : Nat → Nat) (e : Nat) : Prop := ∀ o, o < e → b o = g o
def pfx (g : Nat → Nat) (e : Nat) : List (Nat × Nat) := (List.range e).map (fun o => (o, g o))
theorem pfx_mem {g : Nat → Nat} {e : Nat} {p : Nat × Nat} : p ∈ pfx g e ↔ p.1 < e ∧ p.2 = g p.1 := by
  unfold pfx
  rw [List.mem_map]
  constructor
  · rintro ⟨o, ho, rfl⟩
    exact ⟨List.mem_range.mp ho, rfl⟩
  · rintro ⟨h1, h2⟩
    exact ⟨p.1, List.mem_range.mpr h1, by rw [← h2]⟩
theorem okA_pfx {F : Fm} {L g : Nat → Nat} {bars : Bool} {e w : Nat} : okA F L bars (pfx g e) e w = true ↔ ∀ o, o < e → cp F L bars o (g o) e w = true := by
  unfold okA
  rw [List.all_eq_true]
  constructor
  · intro h o ho
    exact h (o, g o) (pfx_mem.mpr ⟨ho, rfl⟩)
  · intro h p hp
    obtain ⟨h1, h2⟩ := pfx_mem.mp hp
    rw [h2]; exact h p.1 h1
/-- what a search of the completions of g from e on that meet R leaves: the fewest, and whose words -/
def MB (F : Fm) (L : Nat → Nat) (D : Dr) (R : (Nat → Nat) → Prop) (f : Nat) (S : St) (f' : Nat) (S' : St) : Prop :=
  f' ≤ f ∧ (∀ b, OKf F L b → R b → f' ≤ cst F D b) ∧ gI S' 0 70 = nI f' ∧
  ((f' = f ∧ ∀ j, j < F 0 0 → gI S' 40 j = gI S 40 j) ∨ ∃ a, OKf F L a ∧ R a ∧ cst F D a = f' ∧ f' < f ∧ (∀ j, j < F 0 0 → gI S' 40 j = nI (a j)) ∧ ∀ b, OKf F L b → R b → cst F D b = f' → ∀ k, k < F 0 0 → agr a b k → a k ≤ b k)
theorem smW_mono {g : Nat → Nat} : ∀ n m, m ≤ n → smW g m ≤ smW g n
  | 0, m, h => by rw [show m = 0 by omega]; exact Nat.le_refl _
  | n + 1, m, h => by
    by_cases e : m = n + 1
    · rw [e]; exact Nat.le_refl _
    · exact Nat.le_trans (smW_mono n m (by omega)) (Nat.le_add_right _ _)
theorem m_mends {F : Fm} {L : Nat → Nat} {D : Dr} (hF : FW F) (hD : DW F D) (hL : ∀ e, e < F 0 0 → L e < F 0 0) :
    ∀ (k e d f : Nat) (g : Nat → Nat) (S : St) (Q : St → Prop), e + k = F 0 0 → k < d → f ≤ 1000 → MH F L D S → gI S 0 70 = nI f → (∀ o, o < e → g o < F 0 5 ∧ gI S 39 o = nI (g o)) → (∀ o, o < e → ∀ o', o' < o → cp F L false o' (g o') o (g o) = true) →
      (∀ S' f', frH S S' → (∀ o, o < e → gI S' 39 o = gI S 39 o) → MB F L D (fun b => agr g b e) f S f' S' → Q S') →
      w_X12_mends d (nI e) (nI (smW (fun o => chg F D o (g o)) e)) S Q := by
  have hn := hF.1.2.1
  have hww := hF.1.2.2.2.2.2.2.1
  have hsm : ∀ (g : Nat → Nat) e, e ≤ 12 → smW (fun o => chg F D o (g o)) e ≤ 720 := fun g e he => by
    have := smW_le (g := fun o => chg F D o (g o)) (b := 60) e (fun o _ => chg_le hD _ _)
    omega
  have prune : ∀ (g : Nat → Nat) (e f : Nat) (S : St), e ≤ F 0 0 → gI S 0 70 = nI f → f ≤ smW (fun o => chg F D o (g o)) e → MB F L D (fun b => agr g b e) f S f S := by
    intro g e f S he h70 hc
    refine ⟨Nat.le_refl _, fun b hb hR => ?_, h70, Or.inl ⟨rfl, fun _ _ => rfl⟩⟩
    have h1 := smW_mono (g := fun o => chg F D o (b o)) (F 0 0) e he
    rw [smW_congr (g := fun o => chg F D o (b o)) (h := fun o => chg F D o (g o)) e (fun o ho => by rw [hR o ho])] at h1
    exact Nat.le_trans hc h1
  intro k
  induction k with
  | zero =>
    intro e d f g S Q hek hd hf hM h70 hg hok hQ
    obtain ⟨d, rfl⟩ : ∃ d', d = d' + 1 := ⟨d - 1, by omega⟩
    have he : e = F 0 0 := by omega
    subst he
    have hs := hsm g (F 0 0) hn
    show u_X12_mends (w_X12_mends d) _ _ S Q
    unfold u_X12_mends
    rw [h70, hM.1.1]
    refine nI_ifLt (by omega) (by omega) (fun c => ?_) (fun c => hQ S f (frH_refl _) (fun _ _ => rfl) (prune g _ f S (Nat.le_refl _) h70 c))
    rw [if_pos rfl]
    intro S1 hS1
    have hOK : OKf F L g := fun e he => ⟨(hg e he).1, fun o ho => hok e he o ho⟩
    refine up1 (B := b_X12_mends_24 Q) 12 (by omega) (fun j S' => frH S S' ∧ (∀ o, gI S' 39 o = gI S 39 o) ∧ gI S' 0 70 = nI (smW (fun o => chg F D o (g o)) (F 0 0)) ∧ ∀ i, i < j → gI S' 40 i = gI S 39 i) ?_ ?_ 0 (by omega) ⟨fun b j h1 h2 h3 => by rw [hS1, gI_sI, if_neg h3], fun o => by rw [hS1, gI_sI, if_neg (by omega)], by rw [hS1, gI_sI, if_pos ⟨rfl, rfl⟩], fun i hi => absurd hi (Nat.not_lt_zero _)⟩
    · rintro kk j S' hj ⟨i1, i2, i3, i4⟩ hkk
      unfold b_X12_mends_24
      have hv : vp_in (nI j) 12 := vp_in_nI hj (by omega)
      rw [if_neg (show ¬ (12 : Int32) ≤ nI j from nI_ge (b := 12) hj (by omega))]
      refine ⟨hv, hv, fun S2 hS2 x hx => ?_⟩
      rw [nI_clamp (by omega)] at hS2
      subst hS2
      refine hkk _ _ hx ⟨fun b j h1 h2 h3 => by rw [gI_sI, if_neg (fun q => h2 q.1)]; exact i1 b j h1 h2 h3, fun o => by rw [gI_sI, if_neg (by omega)]; exact i2 o, by rw [gI_sI, if_neg (by omega)]; exact i3, fun i hi => ?_⟩
      rw [gI_sI]
      by_cases q : i = j
      · subst q; rw [if_pos ⟨rfl, rfl⟩]; exact i2 i
      · rw [if_neg (fun z => q z.2)]; exact i4 i (by omega)
    · rintro kk S' ⟨i1, i2, i3, i4⟩
      unfold b_X12_mends_24
      rw [if_pos (show (12 : Int32) ≤ nI 12 from nI_le (a := 12) (Nat.le_refl _) (by omega))]
      refine hQ S' _ i1 (fun o _ => i2 o) ⟨Nat.le_of_lt c, fun b hb hR => ?_, i3, Or.inr ⟨g, hOK, fun o _ => rfl, rfl, c, fun j hj => by rw [i4 j (by omega)]; exact (hg j hj).2, fun b hb hR _ k hk _ => by rw [hR k hk]; exact Nat.le_refl _⟩⟩
      exact Nat.le_of_eq (smW_congr _ (fun o ho => by rw [hR o ho]))
  | succ k ih =>
    intro e d f g S Q hek hd hf hM h70 hg hok hQ
    obtain ⟨d, rfl⟩ : ∃ d', d = d' + 1 := ⟨d - 1, by omega⟩
    have he : e < F 0 0 := by omega
    have hs := hsm g e (by omega)
    have h2e : 2 ^ e < 2 ^ 31 := Nat.pow_lt_pow_right (by omega) (by omega)
    show u_X12_mends (w_X12_mends d) _ _ S Q
    unfold u_X12_mends
    rw [h70, hM.1.1]
    refine nI_ifLt (by omega) (by omega) (fun c => ?_) (fun c => hQ S f (frH_refl _) (fun _ _ => rfl) (prune g e f S (by omega) h70 c))
    rw [if_neg (fun q => by have := nI_inj (by omega) (by omega) q; omega)]
    refine up1 (B := b_X12_mends_51 (nI e) (nI (smW (fun o => chg F D o (g o)) e)) (w_X12_mends d) Q) (F 0 5) (by omega) (fun w S' => frH S S' ∧ (∀ o, o < e → gI S' 39 o = gI S 39 o) ∧ ∃ f', MB F L D (fun b => agr g b e ∧ b e < w) f S f' S') ?_ ?_ 0 (by omega) ⟨frH_refl _, fun _ _ => rfl, f, Nat.le_refl _, fun b _ hR => absurd hR.2 (Nat.not_lt_zero _), h70, Or.inl ⟨rfl, fun _ _ => rfl⟩⟩
    · rintro kk w S' hw ⟨i1, i2, f', m1, m2, m3, m4⟩ hkk
      unfold b_X12_mends_51
      have hM' := MH_fr i1 hM
      have hset : (1 : Int32) <<< (nI e &&& 31) - (1 : Int32) = nI (2 ^ e - 1) := by
        rw [bN_one (by omega)]
        exact pk_sub (b := 1) Nat.one_le_two_pow
      rw [hM'.1.2.1, if_neg (nI_ge hw (by omega)), hset]
      have hMA : MA F (2 ^ e - 1) e (pfx g e) S' := ⟨fun p hp => by
        obtain ⟨p1, p2⟩ := pfx_mem.mp hp
        obtain ⟨q1, q2⟩ := hg p.1 p1
        exact ⟨p1, by rw [tb_full]; simp [p1], by rw [p2]; exact q1, by rw [i2 _ p1, p2]; exact q2⟩, fun o ho _ => ⟨g o, pfx_mem.mpr ⟨ho, rfl⟩⟩⟩
      refine m_goes (bars := false) (acc := pfx g e) hF hL hM'.1 hMA (by omega) he hw ?_
      by_cases cok : okA F L false (pfx g e) e w = true
      · rw [if_pos cok, if_neg (by decide)]
        refine ⟨vp_in_nI (by omega) (by omega), fun S2 hS2 => ?_⟩
        rw [nI_clamp (by omega)] at hS2
        have j1 : (12 : Int32) * nI e + nI w = nI (12 * e + w) := by rw [← nI_add, ← pk_mul]; rfl
        have hf2 : frH S' S2 := by subst hS2; intro b j h1 h2 h3; rw [gI_sI, if_neg (fun q => h1 q.1)]
        have h70' : gI S2 0 70 = nI f' := by subst hS2; rw [gI_sI, if_neg (by omega)]; exact m3
        have h40' : ∀ j, gI S2 40 j = gI S' 40 j := by subst hS2; intro j; rw [gI_sI, if_neg (by omega)]
        have h39' : ∀ o, o < e → gI S2 39 o = gI S' 39 o := by subst hS2; intro o ho; rw [gI_sI, if_neg (by omega)]
        have h39e : gI S2 39 e = nI w := by subst hS2; rw [gI_sI, if_pos ⟨rfl, rfl⟩]
        have hM2 := MH_fr hf2 hM'
        rw [j1, nI_clamp (by omega), hM2.2 e w he hw, nI_add, nI_1]
        refine ⟨vp_in_nI (by omega) (by omega), ?_⟩
        have hsum : smW (fun o => chg F D o (g o)) e + chg F D e w = smW (fun o => chg F D o (if o = e then w else g o)) (e + 1) := by
          show _ = smW _ e + chg F D e (if e = e then w else g e)
          rw [if_pos rfl]
          congr 1
          exact smW_congr _ (fun o ho => by rw [if_neg (by omega)])
        rw [hsum]
        refine ih (e + 1) d f' (fun o => if o = e then w else g o) S2 _ (by omega) (by omega) (by omega) hM2 h70' (fun o ho => ?_) (fun o ho o' ho' => ?_) ?_
        · by_cases q : o = e
          · subst q; rw [if_pos rfl]; exact ⟨hw, h39e⟩
          · rw [if_neg q, h39' o (by omega), i2 o (by omega)]; exact hg o (by omega)
        · by_cases q : o = e
          · subst q
            rw [if_pos rfl, if_neg (by omega)]
            exact okA_pfx.mp cok o' ho'
          · rw [if_neg q, if_neg (by omega)]; exact hok o (by omega) o' ho'
        · intro S3 f3 k1 k2 ⟨n1, n2, n3, n4⟩ x hx
          -- those with w at e
          have conv : ∀ b : Nat → Nat, agr (fun o => if o = e then w else g o) b (e + 1) ↔ agr g b e ∧ b e = w := by
            intro b
            constructor
            · intro h
              refine ⟨fun o ho => ?_, ?_⟩
              · have := h o (by omega); dsimp only at this; rwa [if_neg (by omega)] at this
              · have := h e (by omega); dsimp only at this; rwa [if_pos rfl] at this
            · rintro ⟨h1, h2⟩ o ho
              dsimp only
              by_cases q : o = e
              · subst q; rw [if_pos rfl]; exact h2
              · rw [if_neg q]; exact h1 o (by omega)
          refine hkk _ _ hx ⟨frH_trans i1 (frH_trans hf2 k1), fun o ho => by rw [k2 o (by omega), h39' o ho]; exact i2 o ho, f3, Nat.le_trans n1 m1, fun b hb hR => ?_, n3, ?_⟩
          · by_cases q : b e = w
            · exact n2 b hb ((conv b).mpr ⟨hR.1, q⟩)
            · exact Nat.le_trans n1 (m2 b hb ⟨hR.1, by omega⟩)
          · rcases n4 with ⟨q1, q2⟩ | ⟨a, a1, a2, a3, a4, a5, a6⟩
            · subst q1
              rcases m4 with ⟨r1, r2⟩ | ⟨a, a1, a2, a3, a4, a5, a6⟩
              · exact Or.inl ⟨r1, fun j hj => by rw [q2 j hj, h40' j]; exact r2 j hj⟩
              · refine Or.inr ⟨a, a1, ⟨a2.1, by omega⟩, a3, a4, fun j hj => by rw [q2 j hj, h40' j]; exact a5 j hj, fun b hb hR hc kx hkx hag => ?_⟩
                by_cases q : b e = w
                · rcases Nat.lt_trichotomy kx e with z | z | z
                  · rw [a2.1 kx z, hR.1 kx z]; exact Nat.le_refl _
                  · subst z; rw [q]; exact Nat.le_of_lt a2.2
                  · have := hag e z
                    have := a2.2
                    omega
                · exact a6 b hb ⟨hR.1, by omega⟩ hc kx hkx hag
            · obtain ⟨c1, c2⟩ := (conv a).mp a2
              refine Or.inr ⟨a, a1, ⟨c1, by omega⟩, a3, by omega, a5, fun b hb hR hc kx hkx hag => ?_⟩
              by_cases q : b e = w
              · exact a6 b hb ((conv b).mpr ⟨hR.1, q⟩) hc kx hkx hag
              · have := m2 b hb ⟨hR.1, by omega⟩
                omega
      · rw [if_neg cok, if_pos rfl]
        intro x hx
        have no : ∀ b, OKf F L b → agr g b e → b e ≠ w := by
          intro b hb hR q
          refine cok (okA_pfx.mpr (fun o ho => ?_))
          have := (hb e he).2 o ho
          rw [hR o ho, q] at this
          exact this
        refine hkk _ _ hx ⟨i1, i2, f', m1, fun b hb hR => m2 b hb ⟨hR.1, by have := no b hb hR.1; have := hR.2; omega⟩, m3, ?_⟩
        rcases m4 with r | ⟨a, a1, a2, a3, a4, a5, a6⟩
        · exact Or.inl r
        · exact Or.inr ⟨a, a1, ⟨a2.1, by omega⟩, a3, a4, a5, fun b hb hR hc kx hkx hag => a6 b hb ⟨hR.1, by have := no b hb hR.1; have := hR.2; omega⟩ hc kx hkx hag⟩
    · rintro kk S' ⟨i1, i2, f', m1, m2, m3, m4⟩
      unfold b_X12_mends_51
      have hM' := MH_fr i1 hM
      rw [hM'.1.2.1, if_pos (nI_le (Nat.le_refl _) (by omega))]
      refine hQ S' f' i1 i2 ⟨m1, fun b hb hR => m2 b hb ⟨hR, (hb e he).1⟩, m3, ?_⟩
      rcases m4 with r | ⟨a, a1, a2, a3, a4, a5, a6⟩
      · exact Or.inl r
      · exact Or.inr ⟨a, a1, a2.1, a3, a4, a5, fun b hb hR hc => a6 b hb ⟨hR, (hb e he).1⟩ hc⟩
theorem m_hasMended {F : Fm} {D : Dr} {pa pb L : Nat → Nat} {S : St} {Q : Int32 → St → Prop} (hF : FW F) (hD : DW F D) (hP : PW F pa pb) (hM : MF F D pa pb S) (hL : Lab (clR F) (F 0 0) L)
    (h0 : ∀ S', frM S S' → (7 < F 0 0 ∨ ∀ a, ¬ OKf F L a) → Q 0 S')
    (h1 : ∀ S' m G, frM S S' → F 0 0 ≤ 7 → LF F L D m G → gI S' 0 70 = nI m → (∀ e, e < F 0 0 → gI S' 40 e = nI (G e)) → Q 1 S') : w_X12_hasMended S Q := by
  have hn := hF.1.2.1
  have hn0 := hF.1.1
  have hww := hF.1.2.2.2.2.2.2.1
  have h := hF.2.1
  have hd60 := hD.1
  unfold w_X12_hasMended
  rw [hM.1.1.1]
  by_cases hn7 : F 0 0 ≤ 7
  · rw [if_pos ((i7 hn).1.mpr hn7)]
    refine m_classes hF hP hM.1 hL ?_
    intro S1 hf1 _ h37
    refine up1 (B := b_X12_hasMended_17 Q) 144 (by omega) (fun k S' => frM S S' ∧ (∀ e, e < F 0 0 → gI S' 37 e = nI (L e)) ∧ ∀ j, j < k → gI S' 44 j = 0) ?_ ?_ 0 (by omega) ⟨hf1, h37, fun j hj => absurd hj (Nat.not_lt_zero _)⟩
    · rintro kk k S' hk ⟨hf, i1, i2⟩ hkk
      unfold b_X12_hasMended_17
      rw [if_neg (show ¬ (144 : Int32) ≤ nI k from nI_ge (b := 144) hk (by omega))]
      refine ⟨vp_in_nI hk (by omega), fun S2 hS2 x hx => ?_⟩
      rw [nI_clamp (by omega)] at hS2
      subst hS2
      refine hkk _ _ hx ⟨frM_row hf (by omega), fun e he => by rw [gI_sI, if_neg (by omega)]; exact i1 e he, fun j hj => ?_⟩
      rw [gI_sI]
      by_cases c : j = k
      · subst c; rw [if_pos ⟨rfl, rfl⟩]
      · rw [if_neg (fun x => c x.2)]; exact i2 j (by omega)
    · rintro kk S' ⟨hf, i1, i2⟩
      unfold b_X12_hasMended_17
      rw [if_pos (show (144 : Int32) ≤ nI 144 from nI_le (a := 144) (Nat.le_refl _) (by omega))]
      refine up1 (B := b_X12_hasMended_39 Q) (D 0 0) (by omega) (fun l S2 => frM S S2 ∧ (∀ e, e < F 0 0 → gI S2 37 e = nI (L e)) ∧ ∀ e w, e < F 0 0 → w < F 0 5 → gI S2 44 (12 * e + w) = nI (chgU F D e w l)) ?_ ?_ 0 (by omega) ⟨hf, i1, fun e w he hw => i2 _ (by omega)⟩
      · rintro k1 l S2 hl ⟨hf2, j1, j2⟩ hk1
        unfold b_X12_hasMended_39
        have hM2 := MF_fr hF hf2 hM
        have hq : l / F 0 0 < 2 ^ 31 := Nat.lt_of_le_of_lt (Nat.div_le_self _ _) (by omega)
        have hne : ¬ nI (F 0 0) = 0 := nI_ne0 (by omega) (by omega)
        rw [hM2.2.2.2.2.2.2.2.1, if_neg (nI_ge hl (by omega)), hM2.1.1.1, pk_rem (by omega) (by omega) (by omega), pk_div (by omega) (by omega) (by omega), nI_l hq]
        refine ⟨hne, hne, ?_⟩
        have hend := endL_lt hF l
        refine m_endAt hn h hM2.1.1.2 (Nat.mod_lt _ (by omega)) (by omega) ?_
        refine up1 (B := b_X12_hasMended_67 k1 (nI l) (nI (it (F 1) (l / F 0 0) (l % F 0 0)))) (F 0 5) (by omega) (fun w S3 => frM S S3 ∧ (∀ e, e < F 0 0 → gI S3 37 e = nI (L e)) ∧ ∀ e w', e < F 0 0 → w' < F 0 5 → gI S3 44 (12 * e + w') = nI (if w' < w then chgU F D e w' (l + 1) else chgU F D e w' l)) ?_ ?_ 0 (by omega) ⟨hf2, j1, fun e w he hw => by rw [if_neg (by omega)]; exact j2 e w he hw⟩
        · rintro k2 w S3 hw ⟨hf3, l1, l2⟩ hk2
          unfold b_X12_hasMended_67
          have hM3 := MF_fr hF hf3 hM
          have hdl := (hD.2 l hl).1
          have m1 : (12 : Int32) * nI (it (F 1) (l / F 0 0) (l % F 0 0)) + nI w = nI (12 * endL F l + w) := by rw [← nI_add, ← pk_mul]; rfl
          have h41 : gI S3 41 l = nI (D 1 l) := (hM3.2.2.2.2.2.2.2.2.2.1 l hl).1
          rw [hM3.2.2.2.2.2.1, if_neg (nI_ge hw (by omega)), m1, nI_clamp (n := 12 * endL F l + w) (by omega), l2 _ w hend hw, if_neg (Nat.lt_irrefl w), nI_clamp (n := l) (by omega), h41]
          refine ⟨vp_in_nI (by omega) (by omega), vp_in_nI (by omega) (by omega), ?_⟩
          have fin : ∀ z : Nat, z = (if D 1 l ≠ w then 1 else 0) → w_X12_hasMended_102 k2 (nI l) (nI (it (F 1) (l / F 0 0) (l % F 0 0))) (nI w) (nI z) (nI (chgU F D (endL F l) w l)) (nI (12 * endL F l + w)) S3 := by
            intro z hz
            refine ⟨vp_in_nI (by omega) (by omega), fun S4 hS4 y hy => ?_⟩
            rw [nI_clamp (by omega), nI_add] at hS4
            subst hS4
            refine hk2 _ _ hy ⟨frM_row hf3 (by omega), fun e he => by rw [gI_sI, if_neg (by omega)]; exact l1 e he, fun e w' he hw' => ?_⟩
            rw [gI_sI]
            by_cases c : e = endL F l ∧ w' = w
            · obtain ⟨rfl, rfl⟩ := c
              rw [if_pos ⟨rfl, rfl⟩, if_pos (by omega), chgU_succ, hz]
              congr 2
              by_cases d : D 1 l ≠ w'
              · rw [if_pos d, if_pos ⟨rfl, d⟩]
              · rw [if_neg d, if_neg (fun q => d q.2)]
            · rw [if_neg (fun q => c (by have := q.2; omega)), l2 e w' he hw']
              congr 1
              by_cases d : w' < w
              · rw [if_pos d, if_pos (by omega)]
              · rw [if_neg d]
                by_cases d2 : w' = w
                · rw [if_pos (by omega), chgU_succ, if_neg (fun q => c ⟨q.1.symm, d2⟩)]; rfl
                · rw [if_neg (by omega)]
          refine nI_ifEq (by omega) (by omega) (fun c => ?_) (fun c => ?_)
          · exact fin 0 (by rw [if_neg (fun q => q c.symm)])
          · exact fin 1 (by rw [if_pos (fun q => c q.symm)])
        · rintro k2 S3 ⟨hf3, l1, l2⟩
          unfold b_X12_hasMended_67
          have hM3 := MF_fr hF hf3 hM
          rw [hM3.2.2.2.2.2.1, if_pos (nI_le (Nat.le_refl _) (by omega))]
          intro x hx
          exact hk1 _ _ hx ⟨hf3, l1, fun e w he hw => by rw [l2 e w he hw, if_pos hw]⟩
      · rintro k1 S2 ⟨hf2, j1, j2⟩
        unfold b_X12_hasMended_39
        have hM2 := MF_fr hF hf2 hM
        rw [hM2.2.2.2.2.2.2.2.1, if_pos (nI_le (Nat.le_refl _) (by omega))]
        intro S3 hS3
        have hf3 : frM S S3 := by rw [hS3]; exact frM_sI hf2 rfl
        refine ⟨13, by omega, ?_⟩
        have hMH : MH F L D S3 := ⟨MG_of (MF_fr hF hf3 hM) (fun e he => by rw [hS3, gI_sI, if_neg (by omega)]; exact j1 e he), fun e w he hw => by rw [hS3, gI_sI, if_neg (by omega)]; exact j2 e w he hw⟩
        refine m_mends hF hD (Lab_cl hL) (F 0 0) 0 13 1000 (fun o => o) S3 _ (by omega) (by omega) (Nat.le_refl _) hMH (by rw [hS3, gI_sI, if_pos ⟨rfl, rfl⟩]; rfl) (fun o ho => absurd ho (Nat.not_lt_zero _)) (fun o ho => absurd ho (Nat.not_lt_zero _)) ?_
        intro S4 f' k1' _ ⟨n1, n2, n3, n4⟩
        have hf4 := frM_trans hf3 (frH_M k1')
        rw [n3]
        have hR0 : ∀ b : Nat → Nat, agr (fun o => o) b 0 := fun b o ho => absurd ho (Nat.not_lt_zero _)
        have hlt : ∀ b, OKf F L b → cst F D b < 1000 := fun b _ => by
          have : cst F D b ≤ F 0 0 * 60 := smW_le _ (fun e _ => chg_le hD _ _)
          omega
        refine nI_if (x := 1000) (by omega) (by omega) (fun c => ?_) (fun c => ?_)
        · refine h0 S4 hf4 (Or.inr (fun a ha => ?_))
          have a1 := n2 a ha (hR0 a)
          have a2 := hlt a ha
          omega
        · rcases n4 with ⟨q1, -⟩ | ⟨a, a1, a2, a3, a4, a5, a6⟩
          · omega
          · exact h1 S4 f' a hf4 hn7 ⟨a1, a3, fun b hb => n2 b hb (hR0 b), fun b hb hc e he hag => a6 b hb (hR0 b) hc e he hag⟩ n3 a5
  · rw [if_neg (fun q => hn7 ((i7 hn).1.mp q))]
    exact h0 S (frM_refl _) (Or.inl (by omega))
theorem c_mend {F : Fm} {D : Dr} {pa pb L : Nat → Nat} {SE SM : St} {K : Int32 → Int32 → St → St → Prop} (hF : FW F) (hD : DW F D) (hP : PW F pa pb) (HE : FE 21 F SE) (HZ : EZ F L SE) (HD : DE 30 D SE) (HI : MI F L D SE) (HM : MF F D pa pb SM)
    (hK : ∀ r S1 S2, frX mcl SE S1 → MRes F L D S1 → frM SM S2 → K r r S1 S2) : w_X11_mend SE (fun r S1 => w_X12_mend SM (fun r' S2 => K r r' S1 S2)) := by
  have HM2 := MF_fr hF (fr0 SM) HM
  refine e_howMany6 hF hD HE HZ HD HI ?_
  intro S1 h1 h2 S2 hS2
  subst hS2
  refine m_hasMended hF hD hP HM2 HZ.2.1 (fun S3 hf3 hno => ?_) (fun S3 m G hf3 hn7 hLF h70 _ => ?_)
  · rw [if_pos rfl]
    rcases h2 with ⟨q1, q2⟩ | ⟨q0, m, G, q1, q2, q3⟩
    · rw [q1]; exact hK _ _ _ h1 (Or.inl ⟨q1, q2⟩) (frM_trans (fr0 SM) hf3)
    · exfalso
      rcases hno with z | z
      · omega
      · exact z G q1.1
  · rw [if_neg (by decide)]
    rcases h2 with ⟨q1, q2⟩ | ⟨q0, m', G', q1, q2, q3⟩
    · exfalso
      rcases q2 with z | z
      · omega
      · exact z G hLF.1
    · rw [h70, (LF_uniq hLF q1).1, ← q2]
      exact hK _ _ _ h1 (Or.inr ⟨q0, m', G', q1, q2, q3⟩) (frM_trans (fr0 SM) hf3)
theorem c_mended {F : Fm} {D : Dr} {pa pb L : Nat → Nat} {SE SM : St} {K : Int32 → Int32 → St → St → Prop} {a : Int32} (hF : FW F) (hD : DW F D) (hP : PW F pa pb) (HE : FE 21 F SE) (HZ : EZ F L SE) (HD : DE 30 D SE) (HI : MI F L D SE) (HM : MF F D pa pb SM)
    (hK : ∀ r S1 S2, frX mcl SE S1 → MI F L D S1 → frM SM S2 → K r r S1 S2) : w_X11_mended a SE (fun r S1 => w_X12_mended a SM (fun r' S2 => K r r' S1 S2)) := by
  have hn := hF.1.2.1
  have HM2 := MF_fr hF (fr0 SM) HM
  have f0 := fr0 SM
  refine e_isEnd (by omega) (HE.1 0 (by omega)) (fun h => ?_) (fun e he e2 => ?_)
  · rw [if_pos rfl]
    intro S2 hS2; subst hS2
    refine m_isPlace (by omega) HM2.1.1.1 (fun _ => ?_) (fun p hp e2 => absurd h (pl_no (by omega) hp e2))
    rw [if_pos rfl]
    exact hK _ _ _ (frX_refl _ _) HI f0
  rw [if_neg (by decide)]
  subst e2
  refine e_howMany6 hF hD HE HZ HD HI ?_
  intro S1 h1 h2
  have mm : ∀ r, ((∀ S3, frM SM S3 → (7 < F 0 0 ∨ ∀ a, ¬ OKf F L a) → K r (-1) S1 S3) ∧ ∀ S3 m G, frM SM S3 → F 0 0 ≤ 7 → LF F L D m G → (∀ e, e < F 0 0 → gI S3 40 e = nI (G e)) → K r (nI (G e)) S1 S3) → w_X12_mended (nI e) SM (fun r' S2 => K r r' S1 S2) := by
    intro r hr S2 hS2
    subst hS2
    refine m_isPlace (by omega) HM2.1.1.1 (fun h => absurd h (pl_no (by omega) he rfl)) (fun _ _ _ => ?_)
    rw [if_neg (by decide)]
    refine m_hasMended hF hD hP HM2 HZ.2.1 (fun S3 hf3 hno => ?_) (fun S3 m G hf3 hn7 hLF _ h40 => ?_)
    · rw [if_pos rfl]; exact hr.1 S3 (frM_trans f0 hf3) hno
    · rw [if_neg (by decide), nI_clamp (by omega), h40 e he]
      exact ⟨vp_in_nI (by omega) (by omega), hr.2 S3 m G (frM_trans f0 hf3) hn7 hLF h40⟩
  rcases h2 with ⟨q1, q2⟩ | ⟨q0, m', G', q1, q2, q3⟩
  · rw [q1, if_pos rfl]
    refine mm _ ⟨fun S3 hf3 _ => hK _ _ _ h1 (Or.inr (Or.inl ⟨q1, q2⟩)) hf3, fun S3 m G hf3 hn7 hLF _ => ?_⟩
    exfalso
    rcases q2 with z | z
    · omega
    · exact z G hLF.1
  · have hlt : m' < 1000 := by
      have : cst F D G' ≤ F 0 0 * 60 := smW_le _ (fun e _ => chg_le hD _ _)
      have := q1.2.1
      omega
    rw [q2, if_neg (show ¬ nI m' = (-1 : Int32) from fun q => nI_pos (n := m') (by omega) (by rw [q]; decide))]
    refine e_cell (by show e < 7; omega) (by decide) ?_
    rw [q3 e he]
    refine mm _ ⟨fun S3 hf3 hno => ?_, fun S3 m G hf3 hn7 hLF _ => ?_⟩
    · exfalso
      rcases hno with z | z
      · omega
      · exact z G' q1.1
    · rw [(LF_uniq hLF q1).2 e he]
      exact hK _ _ _ h1 (Or.inr (Or.inr ⟨q0, m', G', q1, q2, q3⟩)) hf3
