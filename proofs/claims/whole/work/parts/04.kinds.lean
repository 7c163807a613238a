def qv_kl : List (List (Option (Nat × Nat))) := [[some (37, 4), some (36, 3), some (20, 7)],
  [some (21, 9), some (21, 9), none, some (7, 2), some (7, 2), some (7, 2)],
  [some (20, 192), some (20, 1344), some (20, 1344), some (20, 192), some (20, 192), some (20, 192), some (20, 7), some (7, 2), none, none],
  [some (36, 8), some (20, 8), none, none],
  [some (7, 2), some (7, 2), some (1, 6)],
  [some (20, 300), some (20, 60), some (20, 5), some (20, 5), none, none, none],
  [some (20, 60), none],
  [some (21, 16), none],
  [some (20, 80), none],
  [some (0, 3), some (0, 3), none, some (3, 4), some (8, 2), some (5, 7), some (2, 10), some (1, 6), some (4, 3), some (6, 2), some (7, 2), some (7, 2), some (7, 2), some (7, 2)],
  [some (21, 340), some (21, 3264), some (21, 68), some (20, 7), some (20, 7), some (20, 180), some (20, 3), some (20, 180), some (20, 3), none, some (21, 9), some (21, 9), some (20, 1344), some (20, 1344), none, some (20, 192), some (20, 192), some (20, 600), none, some (20, 480), some (20, 8), some (20, 8), none, some (20, 80), none, none, none, none, some (20, 120)]]
def qv_kd (c k : Nat) : Option (Nat × Nat) := if c = 36 then some (6, 2) else if c = 37 then some (7, 2) else (qv_kl.getD c []).getD k none
def qv_nl : List (String × Nat × MethodName × String) := [("RootGates$Bench", 28, ⟨"RootGates$Row", "<init>", "()V"⟩, "RootGates"),
  ("RootGates$History", 28, ⟨"RootGates$Row", "<init>", "()V"⟩, "RootGates"),
  ("RootGates", 34, ⟨"RootGates$Tape", "<init>", "()V"⟩, "RootGates"),
  ("RootGates", 41, ⟨"RootGates$Reader", "<init>", "()V"⟩, "RootGates"),
  ("RootGates", 48, ⟨"RootGates$Cliffords", "<init>", "()V"⟩, "RootGates"),
  ("RootGates", 55, ⟨"RootGates$Channel", "<init>", "()V"⟩, "RootGates"),
  ("RootGates", 62, ⟨"RootGates$Normal", "<init>", "()V"⟩, "RootGates"),
  ("RootGates$Normal", 23, ⟨"RootGates$Channel", "<init>", "()V"⟩, "RootGates"),
  ("RootGates", 69, ⟨"RootGates$Row", "<init>", "()V"⟩, "RootGates"),
  ("RootGates$Row", 25, ⟨"RootGates", "isBelow", "(II)Z"⟩, "RootGates"),
  ("RootGates$Tape", 27, ⟨"RootGates", "gateOfLetter", "(I)I"⟩, "RootGates"),
  ("RootGates$Tape", 19, ⟨"RootGates", "isBelow", "(II)Z"⟩, "RootGates"),
  ("RootGates$Reader", 52, ⟨"RootGates", "gateOfLetter", "(I)I"⟩, "RootGates")]
def qv_nst : List Cond := qv_nl.map (fun q => Cond.methodLinkNest q.1 q.2.1 q.2.2.1 q.2.2.2)
theorem qv_nst_form (w : Cond) (h : w ∈ qv_nst) : ∃ a i x hh, w = Cond.methodLinkNest a i x hh := by
  obtain ⟨q, -, e⟩ := List.mem_map.mp h
  exact ⟨_, _, _, _, e.symm⟩
