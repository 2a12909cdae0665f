/-! a method's run is its contract -/
theorem BodyNm {p : Program} {l : Launch} {y : MethodName} {S : Spec} {cc : ByteArray} {n : Nat} {ret : Option FieldType} {e : Env} {s : State} {m : MethodId} {args : Array Value} {below : List Frame} {meth : Method} {c : Code} {s₁ : State} (B : BodyLoose p l y S cc n ret e s m args below meth c s₁) : meth.name = y.name := (name_of_methodNamed B.named B.method).1
section S46
variable {l : Launch} {dC : Nat → ClassId} {dI : Nat → Nat → Nat} {ct : Nat → ClassId} {ad : Nat → Nat} {P : Nat → List aI} {pcs : Nat → List Nat} {wr : Nat → Bool}
/-- from any place of any method: what comes behind it -/
def RunOk (l : Launch) (dC : Nat → ClassId) (dI : Nat → Nat → Nat) (ct : Nat → ClassId) (ad : Nat → Nat) (P : Nat → List aI) (pcs : Nat → List Nat) (n : Nat) : Prop :=
  ∀ (G : aG) (k : Nat) (lim : Nat × Nat) (i : Nat) (ls : aL) (st : List aV) (S : aS) (v : Option aV) (S2 : aS), aLa G = l → adC G = dC → adI G = dI → aCt G = ct → aAd G = ad → k ≤ 353 → FX G (mB k) (mCs k) → anL G = mLo k → mFr k ≤ (aR G).frames ∧ mWd k ≤ (aR G).locals → (aMe G).name = (mY k).name → lim.1 ≤ an0 G + (aR G).cells ∧ lim.2 ≤ az0 G + (aR G).slots →
    (∀ pc ls, retOk (mB k) k pc v → WA G pc ls v.toList S2) → am_R P n k lim i ls st S v S2 → WA G (am_nth 0 (pcs k) i) ls st S
/-- a method's contract out of its runs -/
theorem metOf {n : Nat} (hrow : am_row ad) (h0 : ∀ k, k < 353 → am_nth 0 (pcs k) 0 = 0) (hn : RunOk l dC dI ct ad P pcs n) {k : Nat} {as : List aV} {S : aS} {v : Option aV} {S2 : aS} (hfit : am_fit k as S) (hR : am_R P n k (S.1.length + mCe k, am_sz S.1 + mSl k) 0 (am_en 0 as) [] S v S2) (hok : ok_h ftab S) (hoa : ∀ x ∈ as, ok_v x) : aM l dC dI ct ad k as S v S2 := by
  obtain ⟨hk, hcat, h9⟩ := hfit
  unfold aM
  refine Met.ofW (cc := mB k) (maxL := mLo k) (ret := mR k) (mpl k hk) rfl ?_
  intro p e s m args below meth c s₁ B hml hv
  obtain ⟨rfl, hsz, hP, hK, hX, hN⟩ := hv
  have hg : ∀ w ∈ lw_g, w.before ((as.map (cv ad)).toArray) s = true := fun w hw => atoms_spec (ws := aWs k) B.pre w (List.mem_cons_of_mem _ hw)
  have hown : s.vm.findClass (cN (mCs k)) = some m.cls := by
    rw [← (mcl k hk).1]
    exact findClass_of_methodNamed B.named
  have hlocks := B.notSynchronized
  have hret := B.returns
  have hF : FX (p, l, e, (headSpec (aWs k) (aRm k)).room, s, m, (as.map (cv ad)).toArray, below, meth, c, MQ below (aQc dC dI ct ad S v S2) ((as.map (cv ad)).toArray) s (mCe k) (mSl k) (am_A ad), mLo k, dC, dI, ct, ad, S.1.length, am_sz S.1, (fun r => (am_nth am_o0 S.1 r, S.2 r))) (mB k) (mCs k) :=
    ⟨B.exec, B.bytes, hml, hown, XN.use hg hN, hK, hrow, hsz, h9⟩
  have key := hn _ k (S.1.length + mCe k, am_sz S.1 + mSl k) 0 (am_en 0 as) [] S v S2 rfl rfl rfl rfl rfl (Nat.le_of_lt hk) hF rfl ⟨Nat.le_refl _, Nat.le_refl _⟩ (BodyNm B) ⟨Nat.le_refl _, Nat.le_refl _⟩ ?_ hR
  · rw [h0 k hk] at key
    have hl := lv_entry (as.map (cv ad)) (n := mLo k) (by rw [sl_len]; exact hcat)
    rw [am_en_ok] at hl
    rw [lg_entry_eq]
    have := key s.heap [] _ ⟨hP, va_S.rf, hok, ⟨Nat.le_refl _, Nat.le_add_right _ _⟩, ⟨⟨Nat.le_refl _, Nat.le_add_right _ _⟩, fun r _ => ⟨rfl, rfl⟩⟩, hX⟩ hl (en_ok as 0 hoa) (fun x hx => by cases hx)
    unfold WP at this
    simp only [Nat.sub_self] at this
    exact this
  · intro pc ls hro H locs lsC hRR hl h1 h2
    have hw1 : S2.1.length ≤ S.1.length + mCe k := hRR.2.2.2.1.2
    have hw2 : am_sz S2.1 ≤ am_sz S.1 + mSl k := hRR.2.2.2.2.1.1.2
    refine W.widen (k := mCe k) (n := mSl k) (by omega) (by omega) ?_
    have post : ∀ t : State, t.heap = H → s.WarmedH t.vm → aQc dC dI ct ad S v S2 ((as.map (cv ad)).toArray) s (.returned (v.map (cv ad))) t := by
      intro t ht _
      refine ⟨rfl, by rw [ht]; exact hRR.1, hRR.2.1.F ht, hRR.2.2.1, fun x hx => h2 x (by rw [hx]; exact List.mem_singleton.mpr rfl), fun r hr => hRR.2.2.2.2.1.2 r hr⟩
    match v, hro, post with
    | none, hro, post => exact W.vret B.exec B.bytes (hret.trans hro.2) post hRR.2.1.2.2 hro.1
    | some (.inl x), hro, post =>
      obtain ⟨hd, ty, hty, hnr⟩ := hro
      exact W.zret B.exec B.bytes (hret.trans hty) hnr post hRR.2.1.2.2 hd
    | some (.inr (.inl x)), hro, post => exact W.lret B.exec B.bytes (hret.trans hro.2) post hRR.2.1.2.2 hro.1
    | some (.inr (.inr x)), hro, post => exact (show False from hro).elim
theorem runOk (hrow : am_row ad) (h0 : ∀ k, k < 353 → am_nth 0 (pcs k) 0 = 0) (hC : ∀ k, k ≤ 353 → am_chkL (mB k) (mCs k) k (mLo k) (wr k) (pcs k) (P k) (pcs k) = true) : ∀ n, RunOk l dC dI ct ad P pcs n := by
  intro n
  induction n with
  | zero => intro G k lim i ls st S v S2 _ _ _ _ _ _ _ _ _ _ _ _ h; exact (show False from h).elim
  | succ n ih =>
    intro G k lim i ls st S v S2 e1 e2 e3 e4 e5 hk hF hnL hfr hnm hlim hret h
    have hmet : ∀ y as S v S2, am_fit y as S → am_R P n y (S.1.length + mCe y, am_sz S.1 + mSl y) 0 (am_en 0 as) [] S v S2 → aMg G y as S v S2 := by
      intro y as S v S2 hfit hR hok hoa
      rw [e1, e2, e3, e4, e5]
      exact metOf hrow h0 ih hfit hR hok hoa
    refine am_x_ok (own := mCs k) (id := k) (wr := wr k) hF (by rw [hnL]; exact hC k hk) hfr hnm hlim (fun i ls st S hc => ih G k lim i ls st S v S2 e1 e2 e3 e4 e5 hk hF hnL hfr hnm hlim hret hc) (fun pc v' ls S' hr ho => ?_) (fun y as S cont hc => ?_) (fun y as S cont hc => ?_) 5000 i _ ls st S rfl h
    · obtain ⟨rfl, rfl⟩ := hr
      exact hret pc ls ho
    · obtain ⟨v', hh, hf, hr, hcont⟩ := hc
      exact ⟨v', hh, hmet _ _ _ _ _ hf hr, hcont⟩
    · obtain ⟨S', hf, hr, g1, g2, g3, g4, hcont⟩ := hc
      exact ⟨S', hmet _ _ _ _ _ hf hr, g1, g2, g3, g4, hcont⟩
end S46
