/-! ===== the machine without its count of steps ===== -/
theorem zX_mono (sc : zSc) : ∀ (n d M pc : Nat) (lv : zLv) (st : List Value) (g : zSg) (h : zHp) (z : zRs), zX sc n d M pc lv st g h = some z → zX sc (n + 1) d M pc lv st g h = some z := by
  intro n
  induction n with
  | zero => intro d M pc lv st g h z hz; simp [zX] at hz
  | succ n ih =>
    intro d M pc lv st g h z hz
    rw [zX] at hz ⊢
    cases hd : zD M pc with
    | none => rw [hd] at hz; exact hz
    | some q =>
      obtain ⟨op, len, mq⟩ := q
      rw [hd] at hz
      simp only at hz ⊢
      cases hs : zStep sc d M op len pc (zMo mq lv) st g h with
      | none => rw [hs] at hz; exact hz
      | some x =>
        rw [hs] at hz
        rcases x with ⟨pc', lv', st', g', h'⟩ | r | ⟨M', as, rest, ini⟩
        · exact ih _ _ _ _ _ _ _ _ hz
        · exact hz
        · cases d with
          | zero => exact hz
          | succ d' =>
            simp only at hz ⊢
            cases hc : zX sc n d' M' 0 (zEnt M' as) [] g h with
            | none => rw [hc] at hz; simp at hz
            | some y =>
              obtain ⟨r, g', h'⟩ := y
              rw [hc] at hz
              rw [ih _ _ _ _ _ _ _ _ hc]
              simp only at hz ⊢
              by_cases hi : ini = true ∨ g' = g
              · rw [if_pos hi] at hz ⊢
                exact ih _ _ _ _ _ _ _ _ hz
              · rw [if_neg hi] at hz
                cases hz
theorem zX_le (sc : zSc) {n k d M pc : Nat} {lv : zLv} {st : List Value} {g : zSg} {h : zHp} {z : zRs} (hz : zX sc n d M pc lv st g h = some z) (hk : n ≤ k) : zX sc k d M pc lv st g h = some z := by
  obtain ⟨j, rfl⟩ := Nat.le.dest hk
  induction j with
  | zero => exact hz
  | succ j ih => exact zX_mono sc _ _ _ _ _ _ _ _ _ (ih (by omega))
noncomputable def zE (sc : zSc) (d M pc : Nat) (lv : zLv) (st : List Value) (g : zSg) (h : zHp) : Option zRs :=
  @dite (Option zRs) (∃ n z, zX sc n d M pc lv st g h = some z) (Classical.propDecidable _) (fun hz => some (Classical.choose (Classical.choose_spec hz))) (fun _ => none)
theorem zE_iff (sc : zSc) {d M pc : Nat} {lv : zLv} {st : List Value} {g : zSg} {h : zHp} {z : zRs} : zE sc d M pc lv st g h = some z ↔ ∃ n, zX sc n d M pc lv st g h = some z := by
  unfold zE
  by_cases hz : ∃ n z, zX sc n d M pc lv st g h = some z
  · rw [dif_pos hz]
    have h1 := Classical.choose_spec (Classical.choose_spec hz)
    constructor
    · intro he
      have he := Option.some.inj he
      rw [he] at h1
      exact ⟨_, h1⟩
    · rintro ⟨n, hn⟩
      have a1 := zX_le sc h1 (Nat.le_max_left _ n)
      have a2 := zX_le sc hn (Nat.le_max_right (Classical.choose hz) n)
      rw [a1] at a2
      exact a2
  · rw [dif_neg hz]
    constructor
    · intro he; cases he
    · rintro ⟨n, hn⟩; exact absurd ⟨n, z, hn⟩ hz
/-- one step, as an equation -/
theorem zE_eq (sc : zSc) (d M pc : Nat) (lv : zLv) (st : List Value) (g : zSg) (h : zHp) : zE sc d M pc lv st g h = (match zD M pc with
    | none => none
    | some (op, len, mq) => match zStep sc d M op len pc (zMo mq lv) st g h with
      | none => none
      | some (.inl (pc', lv', st', g', h')) => zE sc d M pc' lv' st' g' h'
      | some (.inr (.inl r)) => some (r, g, h)
      | some (.inr (.inr (M', as, rest, ini))) => match d with
        | 0 => none
        | d' + 1 => match zE sc d' M' 0 (zEnt M' as) [] g h with
          | none => none
          | some (r, g', h') => if ini = true ∨ g' = g then zE sc (d' + 1) M (pc + 3) (zMo mq lv) (r.toList ++ rest) g' h' else none) := by
  apply Option.ext
  intro z
  rw [zE_iff]
  constructor
  · rintro ⟨n, hn⟩
    cases n with
    | zero => simp [zX] at hn
    | succ n =>
      rw [zX] at hn
      cases hd : zD M pc with
      | none => rw [hd] at hn; exact hn
      | some q =>
        obtain ⟨op, len, mq⟩ := q
        rw [hd] at hn
        simp only at hn ⊢
        cases hs : zStep sc d M op len pc (zMo mq lv) st g h with
        | none => rw [hs] at hn; exact hn
        | some x =>
          rw [hs] at hn
          rcases x with ⟨pc', lv', st', g', h'⟩ | r | ⟨M', as, rest, ini⟩
          · exact (zE_iff sc).mpr ⟨n, hn⟩
          · exact hn
          · cases d with
            | zero => exact hn
            | succ d' =>
              simp only at hn ⊢
              cases hc : zX sc n d' M' 0 (zEnt M' as) [] g h with
              | none => rw [hc] at hn; simp at hn
              | some y =>
                obtain ⟨r, g', h'⟩ := y
                rw [hc] at hn
                rw [(zE_iff sc).mpr ⟨n, hc⟩]
                simp only at hn ⊢
                by_cases hi : ini = true ∨ g' = g
                · rw [if_pos hi] at hn ⊢
                  exact (zE_iff sc).mpr ⟨n, hn⟩
                · rw [if_neg hi] at hn
                  cases hn
  · intro hn
    cases hd : zD M pc with
    | none => rw [hd] at hn; cases hn
    | some q =>
      obtain ⟨op, len, mq⟩ := q
      rw [hd] at hn
      simp only at hn
      cases hs : zStep sc d M op len pc (zMo mq lv) st g h with
      | none => rw [hs] at hn; cases hn
      | some x =>
        rw [hs] at hn
        rcases x with ⟨pc', lv', st', g', h'⟩ | r | ⟨M', as, rest, ini⟩
        · obtain ⟨n, hn⟩ := (zE_iff sc).mp hn
          exact ⟨n + 1, by rw [zX, hd]; simp only; rw [hs]; exact hn⟩
        · exact ⟨1, by rw [zX, hd]; simp only; rw [hs]; exact hn⟩
        · cases d with
          | zero => cases hn
          | succ d' =>
            simp only at hn
            cases hc : zE sc d' M' 0 (zEnt M' as) [] g h with
            | none => rw [hc] at hn; cases hn
            | some y =>
              obtain ⟨r, g', h'⟩ := y
              rw [hc] at hn
              simp only at hn
              by_cases hi : ini = true ∨ g' = g
              · rw [if_pos hi] at hn
                obtain ⟨n1, h1⟩ := (zE_iff sc).mp hc
                obtain ⟨n2, h2⟩ := (zE_iff sc).mp hn
                refine ⟨n1 + n2 + 1, ?_⟩
                rw [zX, hd]
                simp only
                rw [hs]
                simp only
                rw [zX_le sc h1 (show n1 ≤ n1 + n2 by omega)]
                simp only
                rw [if_pos hi]
                exact zX_le sc h2 (by omega)
              · rw [if_neg hi] at hn
                cases hn
