def xi_run (F : Nat) : Nat → xi_F
  | 0 => fun _ _ _ => none
  | d + 1 => fun k vs aw => match xi_tbs[k]? with
    | some q => (match Nat.ble (xi_en vs).length q.1 with
      | true => xi_go (xi_run F d) q.2 F 0 (xi_pd q.1 vs) [] aw
      | false => none)
    | none => none

/-! what comes out, with fuel enough -/
def xe (d : Nat) (tb : List (Option xi_E)) (pc : Nat) (L : xi_L) (st : List Value) (aw : xi_W) (x : xi_R) : Prop := ∃ N : Nat, ∀ n F : Nat, N ≤ n → N ≤ F → xi_go (xi_run F d) tb n pc L st aw = some x
def xm (d k : Nat) (vs : List Value) (aw : xi_W) (x : xi_R) : Prop := ∃ N : Nat, ∀ F : Nat, N ≤ F → xi_run F d k vs aw = some x
section XE
variable {d : Nat} {tb : List (Option xi_E)} {pc p1 p2 : Nat} {L L1 L2 : xi_L} {st s1 s2 : List Value} {aw w1 w2 : xi_W} {x : xi_R}
theorem xe_seq (m : Nat) (h : ∀ n F : Nat, xi_go (xi_run F d) tb (n + m) pc L st aw = xi_go (xi_run F d) tb n p1 L1 s1 w1) (k : xe d tb p1 L1 s1 w1 x) : xe d tb pc L st aw x := by
  obtain ⟨N, hN⟩ := k
  refine ⟨N + m, fun n F h1 h2 => ?_⟩
  obtain ⟨j, rfl⟩ : ∃ j, n = j + m := ⟨n - m, by omega⟩
  rw [h]
  exact hN j F (by omega) (by omega)
theorem xe_ite {c : Prop} [Decidable c] (m : Nat) (h : ∀ n F : Nat, xi_go (xi_run F d) tb (n + m) pc L st aw = if c then xi_go (xi_run F d) tb n p1 L1 s1 w1 else xi_go (xi_run F d) tb n p2 L2 s2 w2) (k1 : c → xe d tb p1 L1 s1 w1 x) (k2 : ¬ c → xe d tb p2 L2 s2 w2 x) : xe d tb pc L st aw x := by
  by_cases hc : c
  · exact xe_seq m (fun n F => by rw [h, if_pos hc]) (k1 hc)
  · exact xe_seq m (fun n F => by rw [h, if_neg hc]) (k2 hc)
theorem xe_if {c : Prop} [Decidable c] (m : Nat) (h : ∀ n F : Nat, xi_go (xi_run F d) tb (n + m) pc L st aw = if c then xi_go (xi_run F d) tb n p1 L1 s1 w1 else none) (hc : c) (k1 : xe d tb p1 L1 s1 w1 x) : xe d tb pc L st aw x :=
  xe_seq m (fun n F => by rw [h, if_pos hc]) k1
theorem xe_nif {c : Prop} [Decidable c] (m : Nat) (h : ∀ n F : Nat, xi_go (xi_run F d) tb (n + m) pc L st aw = if c then none else xi_go (xi_run F d) tb n p1 L1 s1 w1) (hc : ¬ c) (k1 : xe d tb p1 L1 s1 w1 x) : xe d tb pc L st aw x :=
  xe_seq m (fun n F => by rw [h, if_neg hc]) k1
theorem xe_call {k : Nat} {vs rest : List Value} {y : xi_R} (m : Nat) (h : ∀ n F : Nat, xi_go (xi_run F d) tb (n + m) pc L st aw = xi_bd (xi_run F d k vs w1) (fun y => xi_go (xi_run F d) tb n p1 L1 (y.1.toList ++ rest) y.2)) (hm : xm d k vs w1 y) (kk : xe d tb p1 L1 (y.1.toList ++ rest) y.2 x) : xe d tb pc L st aw x := by
  obtain ⟨N, hN⟩ := kk
  obtain ⟨M, hM⟩ := hm
  refine ⟨N + m + M, fun n F h1 h2 => ?_⟩
  obtain ⟨j, rfl⟩ : ∃ j, n = j + m := ⟨n - m, by omega⟩
  rw [h, hM F (by omega)]
  exact hN j F (by omega) (by omega)
theorem xe_ret (m : Nat) (h : ∀ n F : Nat, xi_go (xi_run F d) tb (n + m) pc L st aw = some x) : xe d tb pc L st aw x := by
  refine ⟨m, fun n F h1 _ => ?_⟩
  obtain ⟨j, rfl⟩ : ∃ j, n = j + m := ⟨n - m, by omega⟩
  exact h j F
theorem xe_rif {c : Prop} [Decidable c] (m : Nat) (h : ∀ n F : Nat, xi_go (xi_run F d) tb (n + m) pc L st aw = if c then some x else none) (hc : c) : xe d tb pc L st aw x :=
  xe_ret m (fun n F => by rw [h, if_pos hc])
theorem xm_of {k nL : Nat} {vs : List Value} (ht : xi_tbs[k]? = some (nL, tb)) (hl : Nat.ble (xi_en vs).length nL = true) (h : xe d tb 0 (xi_pd nL vs) [] aw x) : xm (d + 1) k vs aw x := by
  obtain ⟨N, hN⟩ := h
  refine ⟨N, fun F hF => ?_⟩
  show (match xi_tbs[k]? with
    | some q => (match Nat.ble (xi_en vs).length q.1 with
      | true => xi_go (xi_run F d) q.2 F 0 (xi_pd q.1 vs) [] aw
      | false => none)
    | none => none) = some x
  rw [ht]
  show (match Nat.ble (xi_en vs).length nL with
      | true => xi_go (xi_run F d) tb F 0 (xi_pd nL vs) [] aw
      | false => none) = some x
  rw [hl]
  exact hN F F hF hF
end XE
/-! What the evaluator computes is a contract. -/
set_option maxRecDepth 100000 in
theorem xo_all : ∀ (k nL : Nat) (tb : List (Option xi_E)), xi_tbs[k]? = some (nL, tb) → (∃ hs : List Nat, xi_ca k 0 tb hs = true) ∧ nL = mL k ∧ k < 117 ∧ xi_FK k := by
  intro k nL tb h
  match k, h with
  | 0, h => cases h; exact ⟨⟨xh_0, xo_0⟩, rfl, by decide, xf_0⟩
  | 1, h => cases h; exact ⟨⟨xh_1, xo_1⟩, rfl, by decide, xf_1⟩
  | 2, h => cases h; exact ⟨⟨xh_2, xo_2⟩, rfl, by decide, xf_2⟩
  | 3, h => cases h; exact ⟨⟨xh_3, xo_3⟩, rfl, by decide, xf_3⟩
  | 4, h => cases h; exact ⟨⟨xh_4, xo_4⟩, rfl, by decide, xf_4⟩
  | 5, h => cases h; exact ⟨⟨xh_5, xo_5⟩, rfl, by decide, xf_5⟩
  | 6, h => cases h; exact ⟨⟨xh_6, xo_6⟩, rfl, by decide, xf_6⟩
  | 7, h => cases h; exact ⟨⟨xh_7, xo_7⟩, rfl, by decide, xf_7⟩
  | 8, h => cases h; exact ⟨⟨xh_8, xo_8⟩, rfl, by decide, xf_8⟩
  | 9, h => cases h; exact ⟨⟨xh_9, xo_9⟩, rfl, by decide, xf_9⟩
  | 10, h => cases h; exact ⟨⟨xh_10, xo_10⟩, rfl, by decide, xf_10⟩
  | 11, h => cases h; exact ⟨⟨xh_11, xo_11⟩, rfl, by decide, xf_11⟩
  | 12, h => cases h; exact ⟨⟨xh_12, xo_12⟩, rfl, by decide, xf_12⟩
  | 13, h => cases h; exact ⟨⟨xh_13, xo_13⟩, rfl, by decide, xf_13⟩
  | 14, h => cases h; exact ⟨⟨xh_14, xo_14⟩, rfl, by decide, xf_14⟩
  | 15, h => cases h; exact ⟨⟨xh_15, xo_15⟩, rfl, by decide, xf_15⟩
  | 16, h => cases h; exact ⟨⟨xh_16, xo_16⟩, rfl, by decide, xf_16⟩
  | 17, h => cases h; exact ⟨⟨xh_17, xo_17⟩, rfl, by decide, xf_17⟩
  | 18, h => cases h; exact ⟨⟨xh_18, xo_18⟩, rfl, by decide, xf_18⟩
  | 19, h => cases h; exact ⟨⟨xh_19, xo_19⟩, rfl, by decide, xf_19⟩
  | 20, h => cases h; exact ⟨⟨xh_20, xo_20⟩, rfl, by decide, xf_20⟩
  | 21, h => cases h; exact ⟨⟨xh_21, xo_21⟩, rfl, by decide, xf_21⟩
  | 22, h => cases h; exact ⟨⟨xh_22, xo_22⟩, rfl, by decide, xf_22⟩
  | 23, h => cases h; exact ⟨⟨xh_23, xo_23⟩, rfl, by decide, xf_23⟩
  | 24, h => cases h; exact ⟨⟨xh_24, xo_24⟩, rfl, by decide, xf_24⟩
  | 25, h => cases h; exact ⟨⟨xh_25, xo_25⟩, rfl, by decide, xf_25⟩
  | 26, h => cases h; exact ⟨⟨xh_26, xo_26⟩, rfl, by decide, xf_26⟩
  | 27, h => cases h; exact ⟨⟨xh_27, xo_27⟩, rfl, by decide, xf_27⟩
  | 28, h => cases h; exact ⟨⟨xh_28, xo_28⟩, rfl, by decide, xf_28⟩
  | 29, h => cases h; exact ⟨⟨xh_29, xo_29⟩, rfl, by decide, xf_29⟩
  | 30, h => cases h; exact ⟨⟨xh_30, xo_30⟩, rfl, by decide, xf_30⟩
  | 31, h => cases h; exact ⟨⟨xh_31, xo_31⟩, rfl, by decide, xf_31⟩
  | 32, h => cases h; exact ⟨⟨xh_32, xo_32⟩, rfl, by decide, xf_32⟩
  | 33, h => cases h; exact ⟨⟨xh_33, xo_33⟩, rfl, by decide, xf_33⟩
  | 34, h => cases h; exact ⟨⟨xh_34, xo_34⟩, rfl, by decide, xf_34⟩
  | 35, h => cases h; exact ⟨⟨xh_35, xo_35⟩, rfl, by decide, xf_35⟩
  | 36, h => cases h; exact ⟨⟨xh_36, xo_36⟩, rfl, by decide, xf_36⟩
  | 37, h => cases h; exact ⟨⟨xh_37, xo_37⟩, rfl, by decide, xf_37⟩
  | 38, h => cases h; exact ⟨⟨xh_38, xo_38⟩, rfl, by decide, xf_38⟩
  | 39, h => cases h; exact ⟨⟨xh_39, xo_39⟩, rfl, by decide, xf_39⟩
  | 40, h => cases h; exact ⟨⟨xh_40, xo_40⟩, rfl, by decide, xf_40⟩
  | 41, h => cases h; exact ⟨⟨xh_41, xo_41⟩, rfl, by decide, xf_41⟩
  | 42, h => cases h; exact ⟨⟨xh_42, xo_42⟩, rfl, by decide, xf_42⟩
  | 43, h => cases h; exact ⟨⟨xh_43, xo_43⟩, rfl, by decide, xf_43⟩
  | 44, h => cases h; exact ⟨⟨xh_44, xo_44⟩, rfl, by decide, xf_44⟩
  | 45, h => cases h; exact ⟨⟨xh_45, xo_45⟩, rfl, by decide, xf_45⟩
  | 46, h => cases h; exact ⟨⟨xh_46, xo_46⟩, rfl, by decide, xf_46⟩
  | 47, h => cases h; exact ⟨⟨xh_47, xo_47⟩, rfl, by decide, xf_47⟩
  | 48, h => cases h; exact ⟨⟨xh_48, xo_48⟩, rfl, by decide, xf_48⟩
  | 49, h => cases h; exact ⟨⟨xh_49, xo_49⟩, rfl, by decide, xf_49⟩
  | 50, h => cases h; exact ⟨⟨xh_50, xo_50⟩, rfl, by decide, xf_50⟩
  | 51, h => cases h; exact ⟨⟨xh_51, xo_51⟩, rfl, by decide, xf_51⟩
  | 52, h => cases h; exact ⟨⟨xh_52, xo_52⟩, rfl, by decide, xf_52⟩
  | 53, h => cases h; exact ⟨⟨xh_53, xo_53⟩, rfl, by decide, xf_53⟩
  | 54, h => cases h; exact ⟨⟨xh_54, xo_54⟩, rfl, by decide, xf_54⟩
  | 55, h => cases h; exact ⟨⟨xh_55, xo_55⟩, rfl, by decide, xf_55⟩
  | 56, h => cases h; exact ⟨⟨xh_56, xo_56⟩, rfl, by decide, xf_56⟩
  | 57, h => cases h; exact ⟨⟨xh_57, xo_57⟩, rfl, by decide, xf_57⟩
  | 58, h => cases h; exact ⟨⟨xh_58, xo_58⟩, rfl, by decide, xf_58⟩
  | 59, h => cases h; exact ⟨⟨xh_59, xo_59⟩, rfl, by decide, xf_59⟩
  | 60, h => cases h; exact ⟨⟨xh_60, xo_60⟩, rfl, by decide, xf_60⟩
  | 61, h => cases h; exact ⟨⟨xh_61, xo_61⟩, rfl, by decide, xf_61⟩
  | 62, h => cases h; exact ⟨⟨xh_62, xo_62⟩, rfl, by decide, xf_62⟩
  | 63, h => cases h; exact ⟨⟨xh_63, xo_63⟩, rfl, by decide, xf_63⟩
  | 64, h => cases h; exact ⟨⟨xh_64, xo_64⟩, rfl, by decide, xf_64⟩
  | 65, h => cases h; exact ⟨⟨xh_65, xo_65⟩, rfl, by decide, xf_65⟩
  | 66, h => cases h; exact ⟨⟨xh_66, xo_66⟩, rfl, by decide, xf_66⟩
  | 67, h => cases h; exact ⟨⟨xh_67, xo_67⟩, rfl, by decide, xf_67⟩
  | 68, h => cases h; exact ⟨⟨xh_68, xo_68⟩, rfl, by decide, xf_68⟩
  | 69, h => cases h; exact ⟨⟨xh_69, xo_69⟩, rfl, by decide, xf_69⟩
  | 70, h => cases h; exact ⟨⟨xh_70, xo_70⟩, rfl, by decide, xf_70⟩
  | 71, h => cases h; exact ⟨⟨xh_71, xo_71⟩, rfl, by decide, xf_71⟩
  | 72, h => cases h; exact ⟨⟨xh_72, xo_72⟩, rfl, by decide, xf_72⟩
  | 73, h => cases h; exact ⟨⟨xh_73, xo_73⟩, rfl, by decide, xf_73⟩
  | 74, h => cases h; exact ⟨⟨xh_74, xo_74⟩, rfl, by decide, xf_74⟩
  | 75, h => cases h; exact ⟨⟨xh_75, xo_75⟩, rfl, by decide, xf_75⟩
  | 76, h => cases h; exact ⟨⟨xh_76, xo_76⟩, rfl, by decide, xf_76⟩
  | 77, h => cases h; exact ⟨⟨xh_77, xo_77⟩, rfl, by decide, xf_77⟩
  | 78, h => cases h; exact ⟨⟨xh_78, xo_78⟩, rfl, by decide, xf_78⟩
  | 79, h => cases h; exact ⟨⟨xh_79, xo_79⟩, rfl, by decide, xf_79⟩
  | 80, h => cases h; exact ⟨⟨xh_80, xo_80⟩, rfl, by decide, xf_80⟩
  | 81, h => cases h; exact ⟨⟨xh_81, xo_81⟩, rfl, by decide, xf_81⟩
  | 82, h => cases h; exact ⟨⟨xh_82, xo_82⟩, rfl, by decide, xf_82⟩
  | 83, h => cases h; exact ⟨⟨xh_83, xo_83⟩, rfl, by decide, xf_83⟩
  | 84, h => cases h; exact ⟨⟨xh_84, xo_84⟩, rfl, by decide, xf_84⟩
  | 85, h => cases h; exact ⟨⟨xh_85, xo_85⟩, rfl, by decide, xf_85⟩
  | 86, h => cases h; exact ⟨⟨xh_86, xo_86⟩, rfl, by decide, xf_86⟩
  | 87, h => cases h; exact ⟨⟨xh_87, xo_87⟩, rfl, by decide, xf_87⟩
  | 88, h => cases h; exact ⟨⟨xh_88, xo_88⟩, rfl, by decide, xf_88⟩
  | 89, h => cases h; exact ⟨⟨xh_89, xo_89⟩, rfl, by decide, xf_89⟩
  | 90, h => cases h; exact ⟨⟨xh_90, xo_90⟩, rfl, by decide, xf_90⟩
  | 91, h => cases h; exact ⟨⟨xh_91, xo_91⟩, rfl, by decide, xf_91⟩
  | 92, h => cases h; exact ⟨⟨xh_92, xo_92⟩, rfl, by decide, xf_92⟩
  | 93, h => cases h; exact ⟨⟨xh_93, xo_93⟩, rfl, by decide, xf_93⟩
  | 94, h => cases h; exact ⟨⟨xh_94, xo_94⟩, rfl, by decide, xf_94⟩
  | 95, h => cases h; exact ⟨⟨xh_95, xo_95⟩, rfl, by decide, xf_95⟩
  | 96, h => cases h; exact ⟨⟨xh_96, xo_96⟩, rfl, by decide, xf_96⟩
  | 97, h => cases h; exact ⟨⟨xh_97, xo_97⟩, rfl, by decide, xf_97⟩
  | 98, h => cases h; exact ⟨⟨xh_98, xo_98⟩, rfl, by decide, xf_98⟩
  | 99, h => cases h; exact ⟨⟨xh_99, xo_99⟩, rfl, by decide, xf_99⟩
  | 100, h => cases h; exact ⟨⟨xh_100, xo_100⟩, rfl, by decide, xf_100⟩
  | 101, h => cases h; exact ⟨⟨xh_101, xo_101⟩, rfl, by decide, xf_101⟩
  | 102, h => cases h; exact ⟨⟨xh_102, xo_102⟩, rfl, by decide, xf_102⟩
  | 103, h => cases h; exact ⟨⟨xh_103, xo_103⟩, rfl, by decide, xf_103⟩
  | 104, h => cases h; exact ⟨⟨xh_104, xo_104⟩, rfl, by decide, xf_104⟩
  | 105, h => cases h; exact ⟨⟨xh_105, xo_105⟩, rfl, by decide, xf_105⟩
  | 106, h => cases h; exact ⟨⟨xh_106, xo_106⟩, rfl, by decide, xf_106⟩
  | 107, h => cases h; exact ⟨⟨xh_107, xo_107⟩, rfl, by decide, xf_107⟩
  | 108, h => cases h; exact ⟨⟨xh_108, xo_108⟩, rfl, by decide, xf_108⟩
  | 109, h => cases h; exact ⟨⟨xh_109, xo_109⟩, rfl, by decide, xf_109⟩
  | 110, h => cases h; exact ⟨⟨xh_110, xo_110⟩, rfl, by decide, xf_110⟩
  | 111, h => cases h; exact ⟨⟨xh_111, xo_111⟩, rfl, by decide, xf_111⟩
  | 112, h => cases h; exact ⟨⟨xh_112, xo_112⟩, rfl, by decide, xf_112⟩
  | 113, h => cases h; exact ⟨⟨xh_113, xo_113⟩, rfl, by decide, xf_113⟩
  | 114, h => cases h; exact ⟨⟨xh_114, xo_114⟩, rfl, by decide, xf_114⟩
  | 115, h => cases h; exact ⟨⟨xh_115, xo_115⟩, rfl, by decide, xf_115⟩
  | 116, h => cases h; exact ⟨⟨xh_116, xo_116⟩, rfl, by decide, xf_116⟩
  | _ + 117, h => cases h
set_option maxRecDepth 100000 in
theorem xo_fks : ∀ k, k < 117 → xi_FK k := by
  intro k h
  match k, h with
  | 0, _ => exact xf_0
  | 1, _ => exact xf_1
  | 2, _ => exact xf_2
  | 3, _ => exact xf_3
  | 4, _ => exact xf_4
  | 5, _ => exact xf_5
  | 6, _ => exact xf_6
  | 7, _ => exact xf_7
  | 8, _ => exact xf_8
  | 9, _ => exact xf_9
  | 10, _ => exact xf_10
  | 11, _ => exact xf_11
  | 12, _ => exact xf_12
  | 13, _ => exact xf_13
  | 14, _ => exact xf_14
  | 15, _ => exact xf_15
  | 16, _ => exact xf_16
  | 17, _ => exact xf_17
  | 18, _ => exact xf_18
  | 19, _ => exact xf_19
  | 20, _ => exact xf_20
  | 21, _ => exact xf_21
  | 22, _ => exact xf_22
  | 23, _ => exact xf_23
  | 24, _ => exact xf_24
  | 25, _ => exact xf_25
  | 26, _ => exact xf_26
  | 27, _ => exact xf_27
  | 28, _ => exact xf_28
  | 29, _ => exact xf_29
  | 30, _ => exact xf_30
  | 31, _ => exact xf_31
  | 32, _ => exact xf_32
  | 33, _ => exact xf_33
  | 34, _ => exact xf_34
  | 35, _ => exact xf_35
  | 36, _ => exact xf_36
  | 37, _ => exact xf_37
  | 38, _ => exact xf_38
  | 39, _ => exact xf_39
  | 40, _ => exact xf_40
  | 41, _ => exact xf_41
  | 42, _ => exact xf_42
  | 43, _ => exact xf_43
  | 44, _ => exact xf_44
  | 45, _ => exact xf_45
  | 46, _ => exact xf_46
  | 47, _ => exact xf_47
  | 48, _ => exact xf_48
  | 49, _ => exact xf_49
  | 50, _ => exact xf_50
  | 51, _ => exact xf_51
  | 52, _ => exact xf_52
  | 53, _ => exact xf_53
  | 54, _ => exact xf_54
  | 55, _ => exact xf_55
  | 56, _ => exact xf_56
  | 57, _ => exact xf_57
  | 58, _ => exact xf_58
  | 59, _ => exact xf_59
  | 60, _ => exact xf_60
  | 61, _ => exact xf_61
  | 62, _ => exact xf_62
  | 63, _ => exact xf_63
  | 64, _ => exact xf_64
  | 65, _ => exact xf_65
  | 66, _ => exact xf_66
  | 67, _ => exact xf_67
  | 68, _ => exact xf_68
  | 69, _ => exact xf_69
  | 70, _ => exact xf_70
  | 71, _ => exact xf_71
  | 72, _ => exact xf_72
  | 73, _ => exact xf_73
  | 74, _ => exact xf_74
  | 75, _ => exact xf_75
  | 76, _ => exact xf_76
  | 77, _ => exact xf_77
  | 78, _ => exact xf_78
  | 79, _ => exact xf_79
  | 80, _ => exact xf_80
  | 81, _ => exact xf_81
  | 82, _ => exact xf_82
  | 83, _ => exact xf_83
  | 84, _ => exact xf_84
  | 85, _ => exact xf_85
  | 86, _ => exact xf_86
  | 87, _ => exact xf_87
  | 88, _ => exact xf_88
  | 89, _ => exact xf_89
  | 90, _ => exact xf_90
  | 91, _ => exact xf_91
  | 92, _ => exact xf_92
  | 93, _ => exact xf_93
  | 94, _ => exact xf_94
  | 95, _ => exact xf_95
  | 96, _ => exact xf_96
  | 97, _ => exact xf_97
  | 98, _ => exact xf_98
  | 99, _ => exact xf_99
  | 100, _ => exact xf_100
  | 101, _ => exact xf_101
  | 102, _ => exact xf_102
  | 103, _ => exact xf_103
  | 104, _ => exact xf_104
  | 105, _ => exact xf_105
  | 106, _ => exact xf_106
  | 107, _ => exact xf_107
  | 108, _ => exact xf_108
  | 109, _ => exact xf_109
  | 110, _ => exact xf_110
  | 111, _ => exact xf_111
  | 112, _ => exact xf_112
  | 113, _ => exact xf_113
  | 114, _ => exact xf_114
  | 115, _ => exact xf_115
  | 116, _ => exact xf_116
  | j + 117, h => exact absurd h (by omega)
theorem xi_sound (l : Launch) (F : Nat) : ∀ (d k : Nat) (vs : List Value) (aw : xi_W) (x : xi_R), xi_run F d k vs aw = some x → xi_Con l d k vs aw x := by
  intro d
  induction d with
  | zero => intro k vs aw x h; exact xi_no (show (none : Option xi_R) = some x from h)
  | succ d ih =>
    intro k vs aw x h
    rw [xi_run] at h
    dsimp only at h
    split at h
    · rename_i q hq
      obtain ⟨nL, tb⟩ := q
      split at h
      · rename_i hl
        obtain ⟨⟨hs, hca⟩, rfl, hk, hF⟩ := xo_all k nL tb hq
        exact xi_met ih (fun pc q hpc => by have := xi_ca_ok xo_fks tb hs 0 pc q hca hpc; rw [Nat.zero_add] at this; exact this) hF.2.2.2.2.2.2 rfl rfl (Nat.le_of_ble_eq_true hl) h
      · cases h
    · cases h
theorem xm_sound {l : Launch} {d k : Nat} {vs : List Value} {aw : xi_W} {x : xi_R} (h : xm d k vs aw x) : xi_Con l d k vs aw x := by
  obtain ⟨N, hN⟩ := h
  exact xi_sound l N d k vs aw x (hN N (Nat.le_refl _))
