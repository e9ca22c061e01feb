theorem Fg0 {rg : Nat → Nat → Nat} {a b : IH} (h : Fg rg [] a b) : b = a := by
  funext q i
  exact h q i rfl
/-- the results that a search has so far stay -/
def PX (m m2 : IH) : Prop := m 0 49 ≤ m2 0 49 ∧ ∀ j, j < m 0 49 → m2 33 j = m 33 j ∧ m2 34 j = m 34 j ∧ m2 35 j = m 35 j
theorem PX.rf {m : IH} : PX m m := ⟨Int.le_refl _, fun _ _ => ⟨rfl, rfl, rfl⟩⟩
theorem PX.tr {m m1 m2 : IH} (h : PX m m1) (h1 : PX m1 m2) : PX m m2 := by
  refine ⟨Int.le_trans h.1 h1.1, fun j q => ?_⟩
  have a := h.2 j q
  have b := h1.2 j (Int.lt_of_lt_of_le q h.1)
  rw [b.1, b.2.1, b.2.2]
  exact a
theorem opens_px {N : Nat} {m m2 : IH} {k : Int} (h : G_X12_opens N m k = some m2) : PX m m2 ∧ m2 0 49 = m 0 49 := by
  have f := gb_X12_opens (N := N) (p1 := k) (Fg.rf (rg := rgM) (L := lf_X12_opens) (a := m)) m2 h
  have e : m2 0 49 = m 0 49 := f 0 49 rfl
  exact ⟨⟨by rw [e]; exact Int.le_refl _, fun j _ => ⟨f 33 j rfl, f 34 j rfl, f 35 j rfl⟩⟩, e⟩
/-- one answer noted -/
theorem note_px {N : Nat} {m m2 : IH} {k80 : IH → Int → Option IH} {M w : Int} (h : G_X12_searches_138 N k80 m M w = some m2) : ∃ m1, k80 m1 M = some m2 ∧ PX m m1 ∧ m1 0 49 = m 0 49 + 1 ∧ (0 ≤ m 0 49 ∧ m 0 49 < 60) ∧ ∀ k80' : IH → Int → Option IH, ∀ M', G_X12_searches_138 N k80' m M' w = k80' m1 M' := by
  unfold G_X12_searches_138 G_X12_searches_201 at h
  by_cases c1 : 0 ≤ m 0 49 ∧ m 0 49 < 60
  · by_cases c2 : 0 ≤ w ∧ w < 60
    · have e : ∀ k80' : IH → Int → Option IH, ∀ M', G_X12_searches_138 N k80' m M' w = k80' (xv (xv (xv (xv (xv m 33 (m 0 49) w) 34 (m 0 49) (m 32 w)) 35 (m 0 49) (m 0 43)) 0 49 (m 0 49 + 1)) 32 w (-1)) M' := by
        intro k80' M'
        unfold G_X12_searches_138 G_X12_searches_201
        simp (disch := omega) only [xlet_q, xq_in, xv_ne]
        rw [wr_in (by omega) (by omega)]
      have e' := e k80 M
      unfold G_X12_searches_138 G_X12_searches_201 at e'
      rw [e'] at h
      refine ⟨_, h, ⟨?_, fun j q => ?_⟩, ?_, c1, e⟩
      · rw [xv_ne (by omega), xv_eq rfl rfl]; omega
      · rw [xv_ne (by omega), xv_ne (by omega), xv_ne (by omega), xv_ne (by omega), xv_ne (by omega), xv_ne (by omega), xv_ne (by omega), xv_ne (by omega), xv_ne (by omega), xv_ne (by omega), xv_ne (by omega), xv_ne (by omega), xv_ne (by omega), xv_ne (by omega), xv_ne (by omega)]
        exact ⟨rfl, rfl, rfl⟩
      · rw [xv_ne (by omega), xv_eq rfl rfl]
    · exfalso
      simp only [xlet_q, xq] at h
      rw [if_pos c1, if_neg c2] at h
      cases h
  · exfalso
    simp only [xlet_q, xq] at h
    rw [if_neg c1] at h
    cases h
theorem bound_id {N : Nat} {m a : IH} {s r : Int} (h : G_X12_boundOf N m s = some (r, a)) : a = m := Fg0 (gb_X12_boundOf (N := N) (p1 := s) (Fg.rf (rg := rgM) (L := lf_X12_boundOf) (a := m)) (r, a) h)
/-- a run of the search's loop does one step, whatever the number that is enough -/
theorem step109 {N : Nat} {m m2 : IH} {k80 : IH → Int → Option IH} {M w s : Int} (h : G_X12_searches_109 N k80 m M w s = some m2) : ∃ m1, k80 m1 M = some m2 ∧ PX m m1 ∧ m1 0 49 ≤ m 0 49 + 1 ∧ ∀ k80' : IH → Int → Option IH, ∀ M', G_X12_searches_109 N k80' m M' w s = k80' m1 M' := by
  have op : ∀ {k80 : IH → Int → Option IH} {M : Int}, G_X12_searches_196 N k80 m M s = some m2 → ∃ m1, k80 m1 M = some m2 ∧ PX m m1 ∧ m1 0 49 ≤ m 0 49 + 1 ∧ ∀ k80' : IH → Int → Option IH, ∀ M', G_X12_searches_196 N k80' m M' s = k80' m1 M' := by
    intro k80 M h
    unfold G_X12_searches_196 G_X12_searches_201 at h
    cases e : G_X12_opens N m s with
    | none => rw [e] at h; cases h
    | some m1 =>
      rw [e, ybv_s] at h
      have p := opens_px e
      refine ⟨m1, h, p.1, by omega, fun k80' M' => ?_⟩
      unfold G_X12_searches_196 G_X12_searches_201
      rw [e, ybv_s]
  unfold G_X12_searches_109 at h ⊢
  by_cases c1 : w = -1
  · rw [if_pos c1] at h
    obtain ⟨m1, a, b, c, d⟩ := op h
    exact ⟨m1, a, b, c, fun k M' => by rw [if_pos c1]; exact d k M'⟩
  · rw [if_neg c1] at h
    by_cases c2 : s = -1
    · rw [if_pos c2] at h
      obtain ⟨m1, a, b, c, d, e⟩ := note_px h
      exact ⟨m1, a, b, by omega, fun k M' => by rw [if_neg c1, if_pos c2]; exact e k M'⟩
    · rw [if_neg c2] at h
      by_cases g1 : 0 ≤ w ∧ w < 60
      · by_cases g2 : 0 ≤ s ∧ s < 18025
        · simp (disch := omega) only [xq_in] at h
          cases eb : G_X12_boundOf N m (m 31 s) with
          | none => rw [eb] at h; cases h
          | some p =>
            obtain ⟨r, a⟩ := p
            have ea := bound_id eb
            subst ea
            rw [eb, yb_s] at h
            by_cases c3 : r < a 32 w
            · rw [if_pos c3] at h
              obtain ⟨m1, x1, x2, x3, x4⟩ := op h
              refine ⟨m1, x1, x2, x3, fun k M' => ?_⟩
              rw [if_neg c1, if_neg c2]
              simp (disch := omega) only [xq_in]
              rw [yb_s, if_pos c3]
              exact x4 k M'
            · rw [if_neg c3] at h
              obtain ⟨m1, x1, x2, x3, x4, x5⟩ := note_px h
              refine ⟨m1, x1, x2, by omega, fun k M' => ?_⟩
              rw [if_neg c1, if_neg c2]
              simp (disch := omega) only [xq_in]
              rw [yb_s, if_neg c3]
              exact x5 k M'
        · exfalso
          simp only [xq] at h
          rw [if_pos g1, if_neg g2] at h
          cases h
      · exfalso
        simp only [xq] at h
        rw [if_neg g1] at h
        cases h
theorem step80 {N : Nat} {m m2 : IH} {f : Nat} {M : Int} (h : G_X12_searches_80 N (f + 1) m M = some m2) : (M ≤ m 0 49 ∧ m2 = m) ∨ (m 0 49 < M ∧ m2 = m ∧ ∀ M', m 0 49 < M' → G_X12_searches_80 N (f + 1) m M' = some m) ∨ (m 0 49 < M ∧ ∃ m1, G_X12_searches_80 N f m1 M = some m2 ∧ PX m m1 ∧ m1 0 49 ≤ m 0 49 + 1 ∧ ∀ M', m 0 49 < M' → G_X12_searches_80 N (f + 1) m M' = G_X12_searches_80 N f m1 M') := by
  unfold G_X12_searches_80 at h
  by_cases c1 : M ≤ m 0 49
  · rw [if_pos c1] at h
    cases h
    exact Or.inl ⟨c1, rfl⟩
  · rw [if_neg c1] at h
    right
    cases ea : G_X12_firstAnswer N m with
    | none => rw [ea] at h; cases h
    | some p =>
      obtain ⟨ra, a⟩ := p
      have e1 := Fg0 (gb_X12_firstAnswer (N := N) (Fg.rf (rg := rgM) (L := lf_X12_firstAnswer) (a := m)) (ra, a) ea)
      have e1' : a = m := e1
      subst e1'
      rw [ea, yb_s, xlet_q] at h
      cases es : G_X12_firstState N a with
      | none => rw [es] at h; cases h
      | some p =>
        obtain ⟨rs, b⟩ := p
        have e2 : b = a := Fg0 (gb_X12_firstState (N := N) (Fg.rf (rg := rgM) (L := lf_X12_firstState) (a := a)) (rs, b) es)
        subst e2
        rw [es, yb_s, xlet_q] at h
        have red : ∀ M' (k : Option IH), b 0 49 < M' → ∀ X : Option IH, (if ra = -1 then if rs = -1 then some b else X else X) = k → X = G_X12_searches_109 N (G_X12_searches_80 N f) b M' ra rs → G_X12_searches_80 N (f + 1) b M' = k := by
          intro M' k hM X hX eX
          unfold G_X12_searches_80
          rw [if_neg (by omega), ea, yb_s, xlet_q, es, yb_s, xlet_q, ← eX]
          exact hX
        by_cases d : ra = -1 ∧ rs = -1
        · rw [if_pos d.1, if_pos d.2] at h
          cases h
          left
          exact ⟨by omega, rfl, fun M' hM => red M' _ hM _ (by rw [if_pos d.1, if_pos d.2]) rfl⟩
        · have hX : ∀ X : Option IH, (if ra = -1 then if rs = -1 then some b else X else X) = X := by
            intro X
            by_cases d1 : ra = -1
            · rw [if_pos d1, if_neg (fun q => d ⟨d1, q⟩)]
            · rw [if_neg d1]
          rw [hX] at h
          right
          obtain ⟨m1, x1, x2, x3, x4⟩ := step109 h
          exact ⟨by omega, m1, x1, x2, x3, fun M' hM => red M' _ hM _ (by rw [hX]; exact x4 _ _) rfl⟩
theorem mono80 {N : Nat} {M : Int} : ∀ (f : Nat) (m m2 : IH), G_X12_searches_80 N f m M = some m2 → PX m m2 := by
  intro f
  induction f with
  | zero => intro m m2 h; unfold G_X12_searches_80 at h; cases h
  | succ f ih =>
    intro m m2 h
    rcases step80 h with ⟨_, e⟩ | ⟨_, e, _⟩ | ⟨_, m1, a, b, _⟩
    · rw [e]; exact PX.rf
    · rw [e]; exact PX.rf
    · exact b.tr (ih m1 m2 a)
/-- fewer answers are the first of more -/
theorem pre80 {N : Nat} {M K : Int} (hMK : M ≤ K) : ∀ (f : Nat) (m m2 m3 : IH), G_X12_searches_80 N f m K = some m2 → G_X12_searches_80 N f m M = some m3 → m 0 49 ≤ M → m3 0 49 = min M (m2 0 49) ∧ PX m3 m2 := by
  intro f
  induction f with
  | zero => intro m m2 m3 h; unfold G_X12_searches_80 at h; cases h
  | succ f ih =>
    intro m m2 m3 h h1 h2
    by_cases c : M ≤ m 0 49
    · have p := mono80 _ _ _ h
      rcases step80 h1 with ⟨_, e⟩ | ⟨q, _⟩ | ⟨q, _⟩
      · subst e
        exact ⟨by have := p.1; omega, p⟩
      · omega
      · omega
    · rcases step80 h with ⟨q, _⟩ | ⟨q, e, g⟩ | ⟨q, m1, a, b, d, g⟩
      · omega
      · have := g M (by omega)
        rw [this] at h1
        cases h1
        rw [e]
        exact ⟨by omega, PX.rf⟩
      · have := g M (by omega)
        rw [this] at h1
        exact ih m1 m2 m3 a h1 (by omega)
theorem pre46 {N : Nat} : ∀ (f : Nat) (m m2 : IH) (M v : Int), G_X12_searches_46 N f m M v = some m2 → ∃ m1, m1 0 49 = m 0 49 ∧ ∀ M', G_X12_searches_46 N f m M' v = G_X12_searches_80 N N m1 M' := by
  intro f
  induction f with
  | zero => intro m m2 M v h; unfold G_X12_searches_46 at h; cases h
  | succ f ih =>
    intro m m2 M v h
    unfold G_X12_searches_46 at h ⊢
    by_cases c1 : m 0 10 ≤ v
    · rw [if_pos c1] at h
      by_cases c2 : m 0 10 ≤ 0
      · exact ⟨m, rfl, fun M' => by rw [if_pos c1, if_pos c2]⟩
      · rw [if_neg c2] at h
        cases e : G_X12_waitsFor N m 0 0 with
        | none => rw [e] at h; cases h
        | some m1 =>
          have f := gb_X12_waitsFor (N := N) (p1 := 0) (p2 := 0) (Fg.rf (rg := rgM) (L := lf_X12_waitsFor) (a := m)) m1 e
          exact ⟨m1, f 0 49 rfl, fun M' => by rw [if_pos c1, if_neg c2]; rfl⟩
    · rw [if_neg c1] at h
      by_cases g : 0 ≤ v ∧ v < 60
      · simp (disch := omega) only [xlet_q, xq_in] at h
        obtain ⟨m1, a, b⟩ := ih _ _ _ _ h
        rw [xv_ne (by omega)] at a
        refine ⟨m1, a, fun M' => ?_⟩
        rw [if_neg c1]
        simp (disch := omega) only [xlet_q, xq_in]
        exact b M'
      · exfalso
        simp only [xq] at h
        rw [if_neg g] at h
        cases h
theorem pre17 {N : Nat} : ∀ (f : Nat) (m m2 : IH) (M v : Int), G_X12_searches_17 N f m M v = some m2 → ∃ m1, m1 0 49 = m 0 49 ∧ ∀ M', G_X12_searches_17 N f m M' v = G_X12_searches_80 N N m1 M' := by
  intro f
  induction f with
  | zero => intro m m2 M v h; unfold G_X12_searches_17 at h; cases h
  | succ f ih =>
    intro m m2 M v h
    unfold G_X12_searches_17 at h ⊢
    by_cases c1 : wr ((m 0 33 + 1) * 721) ≤ v
    · rw [if_pos c1, xlet_q] at h
      obtain ⟨m1, a, b⟩ := pre46 _ _ _ _ _ h
      exact ⟨m1, a, fun M' => by rw [if_pos c1, xlet_q]; exact b M'⟩
    · rw [if_neg c1] at h
      by_cases g : 0 ≤ v ∧ v < 18025
      · simp (disch := omega) only [xlet_q, xq_in] at h
        obtain ⟨m1, a, b⟩ := ih _ _ _ _ h
        rw [xv_ne (by omega)] at a
        refine ⟨m1, a, fun M' => ?_⟩
        rw [if_neg c1]
        simp (disch := omega) only [xlet_q, xq_in]
        exact b M'
      · exfalso
        simp only [xq] at h
        rw [if_neg g] at h
        cases h
/-- a search for fewer answers finds the first of those that one for more finds -/
theorem prefixS {N : Nat} {m m2 m3 : IH} {M K : Int} (h0 : 0 ≤ M) (hMK : M ≤ K) (h : G_X12_searches N m K = some m2) (h1 : G_X12_searches N m M = some m3) : m3 0 49 = min M (m2 0 49) ∧ ∀ j, j < m3 0 49 → m2 33 j = m3 33 j ∧ m2 34 j = m3 34 j ∧ m2 35 j = m3 35 j := by
  unfold G_X12_searches at h h1
  simp only [xlet_q] at h h1
  obtain ⟨m1, a, b⟩ := pre17 _ _ _ _ _ h
  rw [b] at h h1
  rw [xv_eq rfl rfl] at a
  have := pre80 hMK N m1 m2 m3 h h1 (by omega)
  exact ⟨this.1, this.2.2⟩
