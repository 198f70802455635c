/-! contracts: Item's constructor, Tree.add -/
/-- all that lies at cell b is the same -/
def Sm (h h' : jh) (b : Nat) : Prop := jt h' b = jt h b ∧ jn h' b = jn h b ∧ (∀ k, ji h' k b = ji h k b ∧ jl h' k b = jl h k b ∧ jr h' k b = jr h k b) ∧ ∀ i, jI h' b i = jI h b i ∧ jL h' b i = jL h b i ∧ jR h' b i = jR h b i
theorem Sm.rf {h : jh} {b : Nat} : Sm h h b := ⟨rfl, rfl, fun _ => ⟨rfl, rfl, rfl⟩, fun _ => ⟨rfl, rfl, rfl⟩⟩
theorem Sm.trans {h h1 h2 : jh} {b : Nat} (p : Sm h h1 b) (q : Sm h1 h2 b) : Sm h h2 b := by
  obtain ⟨p1, p2, p3, p4⟩ := p
  obtain ⟨q1, q2, q3, q4⟩ := q
  exact ⟨q1.trans p1, q2.trans p2, fun k => ⟨(q3 k).1.trans (p3 k).1, (q3 k).2.1.trans (p3 k).2.1, (q3 k).2.2.trans (p3 k).2.2⟩, fun i => ⟨(q4 i).1.trans (p4 i).1, (q4 i).2.1.trans (p4 i).2.1, (q4 i).2.2.trans (p4 i).2.2⟩⟩
theorem Sm.fb {b1 b2 : Nat} {h h' : jh} (s : ∀ a, b1 ≤ a → a ≤ b2 → Sm h h' a) : FB b1 b2 h h' := fun a h1 h2 => by
  obtain ⟨p1, p2, p3, p4⟩ := s a h1 h2
  exact ⟨p1, p2, fun k _ => p3 k, p4⟩
section Sms
variable {h h' : jh} {b : Nat}
theorem Sm.si {k a : Nat} {x : Int32} (e : h' = jsi h k a x) (hb : b ≠ a) : Sm h h' b := by
  subst e; exact ⟨rfl, rfl, fun k' => ⟨by rw [ji_si, if_neg (fun q => hb q.2)], rfl, rfl⟩, fun _ => ⟨rfl, rfl, rfl⟩⟩
theorem Sm.sl {k a : Nat} {x : Int64} (e : h' = jsl h k a x) (hb : b ≠ a) : Sm h h' b := by
  subst e; exact ⟨rfl, rfl, fun k' => ⟨rfl, by rw [jl_sl, if_neg (fun q => hb q.2)], rfl⟩, fun _ => ⟨rfl, rfl, rfl⟩⟩
theorem Sm.sr {k a : Nat} {x : Option Nat} (e : h' = jsr h k a x) (hb : b ≠ a) : Sm h h' b := by
  subst e; exact ⟨rfl, rfl, fun k' => ⟨rfl, rfl, by rw [jr_sr, if_neg (fun q => hb q.2)]⟩, fun _ => ⟨rfl, rfl, rfl⟩⟩
theorem Sm.sI {a i : Nat} {x : Int32} (e : h' = jsI h a i x) (hb : b ≠ a) : Sm h h' b := by
  subst e; exact ⟨rfl, rfl, fun k' => ⟨rfl, rfl, rfl⟩, fun _ => ⟨by rw [jI_sI, if_neg (fun q => hb q.1)], rfl, rfl⟩⟩
theorem Sm.sL {a i : Nat} {x : Int64} (e : h' = jsL h a i x) (hb : b ≠ a) : Sm h h' b := by
  subst e; exact ⟨rfl, rfl, fun k' => ⟨rfl, rfl, rfl⟩, fun _ => ⟨rfl, by rw [jL_sL, if_neg (fun q => hb q.1)], rfl⟩⟩
theorem Sm.sR {a i : Nat} {x : Option Nat} (e : h' = jsR h a i x) (hb : b ≠ a) : Sm h h' b := by
  subst e; exact ⟨rfl, rfl, fun k' => ⟨rfl, rfl, rfl⟩, fun _ => ⟨rfl, rfl, by rw [jR_sR, if_neg (fun q => hb q.1)]⟩⟩
theorem Sm.mk {t n : Nat} (e : h' = jmk h t n) (hb : b ≠ jz h) : Sm h h' b := by
  subst e
  exact ⟨by rw [jt_mk, if_neg hb], by rw [jn_mk, if_neg hb], fun k' => ⟨by rw [ji_mk, if_neg hb], by rw [jl_mk, if_neg hb], by rw [jr_mk, if_neg hb]⟩, fun j => ⟨by rw [jI_mk, if_neg hb], by rw [jL_mk, if_neg hb], by rw [jR_mk, if_neg hb]⟩⟩
end Sms
/-- behind Item's constructor: a new cell (its spot), and the item's fields -/
def IDesc (h h' : jh) (a : Nat) (x1 x2 x3 x4 b : Int32) (o : Option Nat) : Prop := jz h' = jz h + 1 ∧ jt h' (jz h) = 4 ∧ jt h' a = 1 ∧ (∀ k, ji h' k (jz h) = 0) ∧ (∀ c, c ≠ a → c ≠ jz h → Sm h h' c) ∧
  ji h' 0 a = x1 ∧ ji h' 1 a = x2 ∧ ji h' 2 a = x3 ∧ ji h' 3 a = x4 ∧ ji h' 4 a = b ∧ ji h' 19 a = -1 ∧ jr h' 5 a = (if 49 < x2 then none else o) ∧ jr h' 6 a = (if x2 = 88 then o else none) ∧ jr h' 7 a = some (jz h) ∧
  (∀ k, 4 < k → k ≠ 19 → ji h' k a = ji h k a) ∧ (∀ k, k ≠ 5 → k ≠ 6 → k ≠ 7 → jr h' k a = jr h k a)
section Add1
variable {g : jg} {h : jh} {S : sg} {tr rw : Nat} {ad : Nat → Nat} {Q : jq}
theorem c_Spot_init {a : Nat} (hQ : Q (.inl none) h) : jM g mX5_init [.inr (.inr (some a))] h 0 0 Q := eX5_init hQ
theorem c_Item_init {a : Nat} {x1 x2 : Int32} {u n : Nat} {o : Option Nat} (hu : u < 2 ^ 31) (hn : n ≤ 200) (ht : jt h a = 1) (hz : a ≠ jz h) (hQ : ∀ h', IDesc h h' a x1 x2 (nI u) (nI n) (nI (byts u n)) o → Q (.inl none) h') : jM g mX0_init [.inr (.inr (some a)), .inl x1, .inl x2, .inl (nI u), .inl (nI n), .inr (.inr o)] h 1 6 Q := by
  refine eX0_init ⟨ht, ?_⟩
  intro h1 e1 h2 e2 h3 e3 h4 e4
  refine c_bytesOf hu hn ?_
  rw [jki_i]
  have ht4 : jt h4 a = 1 := by rw [e4, e3, e2, e1]; exact ht
  refine ⟨ht4, ?_⟩
  intro h5 e5
  have ht5 : jt h5 a = 1 := by rw [e5]; exact ht4
  have key : ∀ p : Option Nat, p = (if 49 < x2 then none else o) → VX0_init_48 g a x2 o (some a) p h5 1 6 Q := by
    intro p hp
    refine ⟨jsn, ht5, ?_⟩
    intro h6 e6
    rw [jd_s] at e6
    have ht6 : jt h6 a = 1 := by rw [e6]; exact ht5
    have key2 : ∀ q : Option Nat, q = (if x2 = 88 then o else none) → VX0_init_64 g a (some a) q h6 1 6 Q := by
      intro q hq
      refine ⟨jsn, ht6, ?_⟩
      intro h7 e7
      rw [jd_s] at e7
      refine ⟨by decide, by decide, ?_⟩
      intro h8 e8
      refine c_Spot_init ?_
      rw [jkv_i]
      have hz7 : jz h7 = jz h := by rw [e7, e6, e5, e4, e3, e2, e1]; rfl
      have ht7 : jt h7 a = 1 := by rw [e7]; exact ht6
      have ht8 : jt h8 a = 1 := by rw [e8, jt_mk, if_neg (by rw [hz7]; exact hz)]; exact ht7
      refine ⟨ht8, ?_⟩
      intro h9 e9 h10 e10
      rw [hz7] at e9
      refine hQ h10 ⟨?_, ?_, ?_, ?_, ?_, ?_⟩
      · rw [e10, e9, jz_si, jz_sr, e8, jz_mk, hz7]
      · rw [e10, e9, jt_si, jt_sr, e8, jt_mk, hz7, if_pos rfl]
      · rw [e10, e9]; exact ht8
      · intro k
        rw [e10, e9, ji_si, if_neg (fun q => hz q.2.symm), ji_sr, e8, ji_mk, hz7, if_pos rfl]
      · intro c h1' h2'
        exact (((((((((Sm.si e1 h1').trans (Sm.si e2 h1')).trans (Sm.si e3 h1')).trans (Sm.si e4 h1')).trans (Sm.si e5 h1')).trans (Sm.sr e6 h1')).trans (Sm.sr e7 h1')).trans (Sm.mk e8 (by rw [hz7]; exact h2'))).trans (Sm.sr e9 h1')).trans (Sm.si e10 h1')
      · have hz' : ¬ a = jz h7 := by rw [hz7]; exact hz
        have fi : ∀ k, ji h10 k a = if k = 19 then -1 else if k = 4 then nI (byts u n) else if k = 3 then nI n else if k = 2 then nI u else if k = 1 then x2 else if k = 0 then x1 else ji h k a := by
          intro k
          rw [e10, ji_si, e9, ji_sr, e8, ji_mk, if_neg hz', e7, ji_sr, e6, ji_sr, e5, ji_si, e4, ji_si, e3, ji_si, e2, ji_si, e1, ji_si]
          simp only [and_true]
        have fr : ∀ k, jr h10 k a = if k = 7 then some (jz h) else if k = 6 then q else if k = 5 then p else jr h k a := by
          intro k
          rw [e10, jr_si, e9, jr_sr, e8, jr_mk, if_neg hz', e7, jr_sr, e6, jr_sr, e5, jr_si, e4, jr_si, e3, jr_si, e2, jr_si, e1, jr_si]
          simp only [and_true]
        refine ⟨by rw [fi]; rfl, by rw [fi]; rfl, by rw [fi]; rfl, by rw [fi]; rfl, by rw [fi]; rfl, by rw [fi]; rfl, by rw [fr]; exact hp, by rw [fr]; exact hq, by rw [fr]; rfl, fun k k1 k2 => ?_, fun k k1 k2 k3 => ?_⟩
        · rw [fi, if_neg k2, if_neg (by omega), if_neg (by omega), if_neg (by omega), if_neg (by omega), if_neg (by omega)]
        · rw [fr, if_neg k3, if_neg k2, if_neg k1]
    exact ⟨fun c => key2 _ (if_neg c).symm, fun c => key2 _ (if_pos c).symm⟩
  exact ⟨fun c => key _ (if_pos c).symm, fun c => key _ (if_neg c).symm⟩
end Add1
