/-! what must hold for each method to run and end in kappa -/
def wJ3_checkIndex_8e157 (κ : Int32 → mM → Prop) (l0 : Int32) (l1 : Int32) (l2 : Option Nat) (M : mM) : Prop :=
    ((l0 < 0 → False) ∧ (¬ (l0 < 0) → ((l0 < l1 → κ l0 M) ∧ (¬ (l0 < l1) → False))))
def wJ15_checkIndex_7cf53 (κ : Int32 → mM → Prop) (l0 : Int32) (l1 : Int32) (M : mM) : Prop :=
    wJ3_checkIndex_8e157 (fun x1 M2 => κ x1 M2) l0 l1 none M
def wJx4a65c_elementData_915e3 (κ : Option Nat → mM → Prop) (l0 : Option Nat) (l1 : Int32) (M : mM) : Prop :=
    m_gR M l0 4 1 fun x1 => m_ldR M x1 l1 2 fun x2 => κ x2 M
def wJx4a65c_size_8abf5 (κ : Int32 → mM → Prop) (l0 : Option Nat) (M : mM) : Prop :=
    m_gI M l0 4 2 fun x1 => κ x1 M
def wJx4a65c_isEmpty_aae02 (κ : Int32 → mM → Prop) (l0 : Option Nat) (M : mM) : Prop :=
    m_gI M l0 4 2 fun x1 => ((x1 = 0 → κ 1 M) ∧ (¬ (x1 = 0) → κ 0 M))
def wJx4a65c_get_915e3 (κ : Option Nat → mM → Prop) (l0 : Option Nat) (l1 : Int32) (M : mM) : Prop :=
    m_gI M l0 4 2 fun x1 => wJ15_checkIndex_7cf53 (fun x2 M3 => m_rc M3 l0 4 fun b6 => wJx4a65c_elementData_915e3 (fun x4 M5 => κ x4 M5) (some b6) l1 M3) l1 x1 M
def wJ8_newLength_cabcc_21 (κ : Int32 → mM → Prop) (l0 : Int32) (l1 : Int32) (M : mM) : Prop :=
    False
def wJ8_newLength_cabcc (κ : Int32 → mM → Prop) (l0 : Int32) (l1 : Int32) (l2 : Int32) (M : mM) : Prop :=
    (((l0 + (m_max l1 l2)) ≤ 0 → wJ8_newLength_cabcc_21 κ l0 l1 M) ∧ (¬ ((l0 + (m_max l1 l2)) ≤ 0) → ((2147483639 < (l0 + (m_max l1 l2)) → wJ8_newLength_cabcc_21 κ l0 l1 M) ∧ (¬ (2147483639 < (l0 + (m_max l1 l2))) → κ (l0 + (m_max l1 l2)) M))))
def wJ7_copyOf_6403c_24 (g : Nat → Nat) (B : Nat) (κ : Option Nat → mM → Prop) (l0 : Option Nat) (l1 : Int32) (s0 : Option Nat) (M : mM) : Prop :=
    m_len M l0 fun x1 => m_copyR M l0 0 s0 0 (m_min x1 l1) fun M2 => κ s0 M2
def wJ7_copyOf_6403c (g : Nat → Nat) (B : Nat) (κ : Option Nat → mM → Prop) (l0 : Option Nat) (l1 : Int32) (l2 : Option Nat) (M : mM) : Prop :=
    ((l2 = (some (g 4)) → m_newR M 2 l1 B fun q2 M3 => wJ7_copyOf_6403c_24 g B κ l0 l1 (some q2) M3) ∧ (¬ (l2 = (some (g 4))) → False))
def wJ7_copyOf_1904c (g : Nat → Nat) (B : Nat) (κ : Option Nat → mM → Prop) (l0 : Option Nat) (l1 : Int32) (M : mM) : Prop :=
    ((∃ a v, l0 = some a ∧ M a = some (.inl (2, v))) ∧ wJ7_copyOf_6403c g B (fun x1 M2 => κ x1 M2) l0 l1 (some (g 4)) M)
def wJx4a65c_grow_92f84_20 (g : Nat → Nat) (B : Nat) (κ : Option Nat → mM → Prop) (l0 : Option Nat) (l1 : Int32) (l2 : Int32) (M : mM) : Prop :=
    wJ8_newLength_cabcc (fun x1 M2 => m_gR M2 l0 4 1 fun x3 => wJ7_copyOf_1904c g B (fun x4 M5 => m_p M5 l0 4 1 (va_rf x4) fun M6 => κ x4 M6) x3 x1 M2) l2 (l1 - l2) (m_shr l2 1) M
def wJx4a65c_grow_92f84 (g : Nat → Nat) (B : Nat) (κ : Option Nat → mM → Prop) (l0 : Option Nat) (l1 : Int32) (M : mM) : Prop :=
    m_gR M l0 4 1 fun x1 => m_len M x1 fun x2 => ((0 < x2 → wJx4a65c_grow_92f84_20 g B κ l0 l1 x2 M) ∧ (¬ (0 < x2) → m_gR M l0 4 1 fun x4 => ((x4 = (some (g 0)) → m_newR M 2 (m_max 10 l1) B fun q6 M7 => m_p M7 l0 4 1 (va_rf (some q6)) fun M8 => κ (some q6) M8) ∧ (¬ (x4 = (some (g 0))) → wJx4a65c_grow_92f84_20 g B κ l0 l1 x2 M))))
def wJx4a65c_grow_d5877 (g : Nat → Nat) (B : Nat) (κ : Option Nat → mM → Prop) (l0 : Option Nat) (M : mM) : Prop :=
    m_gI M l0 4 2 fun x1 => m_rc M l0 4 fun b4 => wJx4a65c_grow_92f84 g B (fun x2 M3 => κ x2 M3) (some b4) (x1 + 1) M
def wJx4a65c_add_72be8_11 (g : Nat → Nat) (B : Nat) (κ : mM → Prop) (l0 : Option Nat) (l1 : Option Nat) (l2 : Option Nat) (l3 : Int32) (M : mM) : Prop :=
    m_stR M l2 l3 l1 2 fun M1 => m_p M1 l0 4 2 (.int (l3 + 1)) fun M2 => κ M2
def wJx4a65c_add_72be8 (g : Nat → Nat) (B : Nat) (κ : mM → Prop) (l0 : Option Nat) (l1 : Option Nat) (l2 : Option Nat) (l3 : Int32) (M : mM) : Prop :=
    m_len M l2 fun x1 => ((l3 = x1 → m_rc M l0 4 fun b5 => wJx4a65c_grow_d5877 g B (fun x3 M4 => wJx4a65c_add_72be8_11 g B κ l0 l1 x3 l3 M4) (some b5) M) ∧ (¬ (l3 = x1) → wJx4a65c_add_72be8_11 g B κ l0 l1 l2 l3 M))
def wJx4a65c_add_9ea2d (g : Nat → Nat) (B : Nat) (κ : Int32 → mM → Prop) (l0 : Option Nat) (l1 : Option Nat) (M : mM) : Prop :=
    m_gI M l0 4 0 fun x1 => m_p M l0 4 0 (.int (x1 + 1)) fun M2 => m_gR M2 l0 4 1 fun x3 => m_gI M2 l0 4 2 fun x4 => m_rc M2 l0 4 fun b6 => wJx4a65c_add_72be8 g B (fun M5 => κ 1 M5) (some b6) l1 x3 x4 M2
def wJx4a65c_rangeCheckForAdd_d00df (κ : mM → Prop) (l0 : Option Nat) (l1 : Int32) (M : mM) : Prop :=
    m_gI M l0 4 2 fun x1 => ((x1 < l1 → False) ∧ (¬ (x1 < l1) → ((0 ≤ l1 → κ M) ∧ (¬ (0 ≤ l1) → False))))
def wJx4a65c_add_7a177_38 (g : Nat → Nat) (B : Nat) (κ : mM → Prop) (l0 : Option Nat) (l1 : Int32) (l2 : Option Nat) (l3 : Int32) (l4 : Option Nat) (M : mM) : Prop :=
    m_copyR M l4 l1 l4 (l1 + 1) (l3 - l1) fun M1 => m_stR M1 l4 l1 l2 2 fun M2 => m_p M2 l0 4 2 (.int (l3 + 1)) fun M3 => κ M3
def wJx4a65c_add_7a177 (g : Nat → Nat) (B : Nat) (κ : mM → Prop) (l0 : Option Nat) (l1 : Int32) (l2 : Option Nat) (M : mM) : Prop :=
    m_rc M l0 4 fun b2 => wJx4a65c_rangeCheckForAdd_d00df (fun M1 => m_gI M1 l0 4 0 fun x3 => m_p M1 l0 4 0 (.int (x3 + 1)) fun M4 => m_gI M4 l0 4 2 fun x5 => m_gR M4 l0 4 1 fun x6 => m_len M4 x6 fun x7 => ((x5 = x7 → m_rc M4 l0 4 fun b11 => wJx4a65c_grow_d5877 g B (fun x9 M10 => wJx4a65c_add_7a177_38 g B κ l0 l1 l2 x5 x9 M10) (some b11) M4) ∧ (¬ (x5 = x7) → wJx4a65c_add_7a177_38 g B κ l0 l1 l2 x5 x6 M4))) (some b2) l1 M
def wJx4a65c_fastRemove_b59b0_34 (κ : mM → Prop) (l0 : Option Nat) (l1 : Option Nat) (l3 : Int32) (M : mM) : Prop :=
    m_p M l0 4 2 (.int l3) fun M1 => m_stR M1 l1 l3 none 2 fun M2 => κ M2
def wJx4a65c_fastRemove_b59b0 (κ : mM → Prop) (l0 : Option Nat) (l1 : Option Nat) (l2 : Int32) (M : mM) : Prop :=
    m_gI M l0 4 0 fun x1 => m_p M l0 4 0 (.int (x1 + 1)) fun M2 => m_gI M2 l0 4 2 fun x3 => (((x3 - 1) ≤ l2 → wJx4a65c_fastRemove_b59b0_34 κ l0 l1 (x3 - 1) M2) ∧ (¬ ((x3 - 1) ≤ l2) → m_copyR M2 l1 (l2 + 1) l1 l2 ((x3 - 1) - l2) fun M5 => wJx4a65c_fastRemove_b59b0_34 κ l0 l1 (x3 - 1) M5))
def wJx4a65c_remove_915e3 (κ : Option Nat → mM → Prop) (l0 : Option Nat) (l1 : Int32) (M : mM) : Prop :=
    m_gI M l0 4 2 fun x1 => wJ15_checkIndex_7cf53 (fun x2 M3 => m_gR M3 l0 4 1 fun x4 => m_ldR M3 x4 l1 2 fun x5 => m_rc M3 l0 4 fun b7 => wJx4a65c_fastRemove_b59b0 (fun M6 => κ x5 M6) (some b7) x4 l1 M3) l1 x1 M
def wJxa1e45_init_da8c8 (κ : mM → Prop) (l0 : Option Nat) (M : mM) : Prop :=
    ∃ b9 : Nat, l0 = some b9 ∧ κ M
def wJxc12de_init_da8c8 (κ : mM → Prop) (l0 : Option Nat) (M : mM) : Prop :=
    m_rc M l0 4 fun b2 => wJxa1e45_init_da8c8 (fun M1 => m_p M1 l0 4 0 (.int 0) fun M3 => κ M3) (some b2) M
def wJx4a65c_init_da8c8 (g : Nat → Nat) (κ : mM → Prop) (l0 : Option Nat) (M : mM) : Prop :=
    m_rc M l0 4 fun b2 => wJxc12de_init_da8c8 (fun M1 => m_p M1 l0 4 1 (va_rf (some (g 0))) fun M3 => κ M3) (some b2) M
def wJ13_bitCount_95d88 (κ : Int32 → mM → Prop) (l0 : Int64) (M : mM) : Prop :=
    κ ((Int64.toInt32 ((((((((l0 - ((m_lushr l0 1) &&& 6148914691236517205)) &&& 3689348814741910323) + ((m_lushr (l0 - ((m_lushr l0 1) &&& 6148914691236517205)) 2) &&& 3689348814741910323)) + (m_lushr (((l0 - ((m_lushr l0 1) &&& 6148914691236517205)) &&& 3689348814741910323) + ((m_lushr (l0 - ((m_lushr l0 1) &&& 6148914691236517205)) 2) &&& 3689348814741910323)) 4)) &&& 1085102592571150095) + (m_lushr (((((l0 - ((m_lushr l0 1) &&& 6148914691236517205)) &&& 3689348814741910323) + ((m_lushr (l0 - ((m_lushr l0 1) &&& 6148914691236517205)) 2) &&& 3689348814741910323)) + (m_lushr (((l0 - ((m_lushr l0 1) &&& 6148914691236517205)) &&& 3689348814741910323) + ((m_lushr (l0 - ((m_lushr l0 1) &&& 6148914691236517205)) 2) &&& 3689348814741910323)) 4)) &&& 1085102592571150095) 8)) + (m_lushr ((((((l0 - ((m_lushr l0 1) &&& 6148914691236517205)) &&& 3689348814741910323) + ((m_lushr (l0 - ((m_lushr l0 1) &&& 6148914691236517205)) 2) &&& 3689348814741910323)) + (m_lushr (((l0 - ((m_lushr l0 1) &&& 6148914691236517205)) &&& 3689348814741910323) + ((m_lushr (l0 - ((m_lushr l0 1) &&& 6148914691236517205)) 2) &&& 3689348814741910323)) 4)) &&& 1085102592571150095) + (m_lushr (((((l0 - ((m_lushr l0 1) &&& 6148914691236517205)) &&& 3689348814741910323) + ((m_lushr (l0 - ((m_lushr l0 1) &&& 6148914691236517205)) 2) &&& 3689348814741910323)) + (m_lushr (((l0 - ((m_lushr l0 1) &&& 6148914691236517205)) &&& 3689348814741910323) + ((m_lushr (l0 - ((m_lushr l0 1) &&& 6148914691236517205)) 2) &&& 3689348814741910323)) 4)) &&& 1085102592571150095) 8)) 16)) + (m_lushr (((((((l0 - ((m_lushr l0 1) &&& 6148914691236517205)) &&& 3689348814741910323) + ((m_lushr (l0 - ((m_lushr l0 1) &&& 6148914691236517205)) 2) &&& 3689348814741910323)) + (m_lushr (((l0 - ((m_lushr l0 1) &&& 6148914691236517205)) &&& 3689348814741910323) + ((m_lushr (l0 - ((m_lushr l0 1) &&& 6148914691236517205)) 2) &&& 3689348814741910323)) 4)) &&& 1085102592571150095) + (m_lushr (((((l0 - ((m_lushr l0 1) &&& 6148914691236517205)) &&& 3689348814741910323) + ((m_lushr (l0 - ((m_lushr l0 1) &&& 6148914691236517205)) 2) &&& 3689348814741910323)) + (m_lushr (((l0 - ((m_lushr l0 1) &&& 6148914691236517205)) &&& 3689348814741910323) + ((m_lushr (l0 - ((m_lushr l0 1) &&& 6148914691236517205)) 2) &&& 3689348814741910323)) 4)) &&& 1085102592571150095) 8)) + (m_lushr ((((((l0 - ((m_lushr l0 1) &&& 6148914691236517205)) &&& 3689348814741910323) + ((m_lushr (l0 - ((m_lushr l0 1) &&& 6148914691236517205)) 2) &&& 3689348814741910323)) + (m_lushr (((l0 - ((m_lushr l0 1) &&& 6148914691236517205)) &&& 3689348814741910323) + ((m_lushr (l0 - ((m_lushr l0 1) &&& 6148914691236517205)) 2) &&& 3689348814741910323)) 4)) &&& 1085102592571150095) + (m_lushr (((((l0 - ((m_lushr l0 1) &&& 6148914691236517205)) &&& 3689348814741910323) + ((m_lushr (l0 - ((m_lushr l0 1) &&& 6148914691236517205)) 2) &&& 3689348814741910323)) + (m_lushr (((l0 - ((m_lushr l0 1) &&& 6148914691236517205)) &&& 3689348814741910323) + ((m_lushr (l0 - ((m_lushr l0 1) &&& 6148914691236517205)) 2) &&& 3689348814741910323)) 4)) &&& 1085102592571150095) 8)) 16)) 32))) &&& 127) M
def wX7_init (κ : mM → Prop) (l0 : Option Nat) (M : mM) : Prop :=
    ∃ b9 : Nat, l0 = some b9 ∧ κ M
def wX0_init (g : Nat → Nat) (κ : mM → Prop) (l0 : Option Nat) (l1 : Int32) (l2 : Option Nat) (l3 : Option Nat) (l4 : Int32) (l5 : Int32) (M : mM) : Prop :=
    ∃ b9 : Nat, l0 = some b9 ∧ m_new M 4 [.int 0, .null, .int 0] fun q1 M2 => m_rc M2 (some q1) 4 fun b4 => wJx4a65c_init_da8c8 g (fun M3 => m_p M3 l0 5 5 (va_rf (some q1)) fun M5 => m_new M5 12 [.long 0, .long 0] fun q6 M7 => m_rc M7 (some q6) 12 fun b9 => wX7_init (fun M8 => m_p M8 l0 5 6 (va_rf (some q6)) fun M10 => m_new M10 12 [.long 0, .long 0] fun q11 M12 => m_rc M12 (some q11) 12 fun b14 => wX7_init (fun M13 => m_p M13 l0 5 7 (va_rf (some q11)) fun M15 => m_p M15 l0 5 8 (.int 5) fun M16 => m_p M16 l0 5 0 (.int l1) fun M17 => m_p M17 l0 5 1 (va_rf l2) fun M18 => m_p M18 l0 5 2 (va_rf l3) fun M19 => m_p M19 l0 5 3 (.int l4) fun M20 => m_p M20 l0 5 4 (.int l5) fun M21 => κ M21) (some b14) M12) (some b9) M7) (some b4) M2
def wX0_isOpenAt (κ : Int32 → mM → Prop) (l0 : Option Nat) (l1 : Int32) (M : mM) : Prop :=
    m_gI M l0 5 3 fun x1 => m_gI M l0 5 4 fun x2 => ((x2 ≤ (m_rem ((l1 - x1) + 24) 24) → κ 0 M) ∧ (¬ (x2 ≤ (m_rem ((l1 - x1) + 24) 24)) → κ 1 M))
def wX0_dozes (κ : Int32 → mM → Prop) (l0 : Option Nat) (M : mM) : Prop :=
    m_gI M l0 5 9 fun x1 => ((x1 < 5 → κ 0 M) ∧ (¬ (x1 < 5) → κ 1 M))
def wX0_isAt (κ : Int32 → mM → Prop) (l0 : Option Nat) (l1 : Option Nat) (M : mM) : Prop :=
    m_gR M l0 5 1 fun x1 => ((l1 = x1 → κ 1 M) ∧ (¬ (l1 = x1) → m_gR M l0 5 2 fun x3 => ((l1 = x3 → κ 1 M) ∧ (¬ (l1 = x3) → κ 0 M))))
def wX0_across (κ : Option Nat → mM → Prop) (l0 : Option Nat) (l1 : Option Nat) (M : mM) : Prop :=
    m_gR M l0 5 1 fun x1 => ((l1 = x1 → m_gR M l0 5 2 fun x4 => κ x4 M) ∧ (¬ (l1 = x1) → m_gR M l0 5 1 fun x3 => κ x3 M))
def wX0_babiesInLine_35 (κ : Int32 → mM → Prop) (R4 : Option Nat → Int32 → Int32 → mM → Prop) (l0 : Option Nat) (l1 : Int32) (l2 : Int32) (M : mM) : Prop :=
    R4 l0 l1 (l2 + 1) M
def wX0_babiesInLine_4 (κ : Int32 → mM → Prop) : Nat → Option Nat → Int32 → Int32 → mM → Prop
  | 0 => fun _ _ _ _ => False
  | f + 1 => fun (l0 : Option Nat) (l1 : Int32) (l2 : Int32) (M : mM) =>
    m_gR M l0 5 5 fun x1 => m_rc M x1 4 fun b4 => wJx4a65c_size_8abf5 (fun x2 M3 => ((x2 ≤ l2 → κ l1 M3) ∧ (¬ (x2 ≤ l2) → m_gR M3 l0 5 5 fun x6 => m_rc M3 x6 4 fun b9 => wJx4a65c_get_915e3 (fun x7 M8 => m_cast M8 x7 11 (m_gI M8 x7 11 1 fun x10 => ((x10 = 0 → wX0_babiesInLine_35 κ (wX0_babiesInLine_4 κ f) l0 l1 l2 M8) ∧ (¬ (x10 = 0) → wX0_babiesInLine_35 κ (wX0_babiesInLine_4 κ f) l0 (l1 + 1) l2 M8)))) (some b9) l2 M3))) (some b4) M
def wX0_babiesInLine (κ : Int32 → mM → Prop) (l0 : Option Nat) (M : mM) : Prop :=
    ∃ u : Nat, wX0_babiesInLine_4 κ u l0 0 0 M
def wX0_babiesAreAhead_51 (κ : Int32 → mM → Prop) (R2 : Option Nat → Int32 → mM → Prop) (l0 : Option Nat) (l1 : Int32) (M : mM) : Prop :=
    R2 l0 (l1 + 1) M
def wX0_babiesAreAhead_2 (κ : Int32 → mM → Prop) : Nat → Option Nat → Int32 → mM → Prop
  | 0 => fun _ _ _ => False
  | f + 1 => fun (l0 : Option Nat) (l1 : Int32) (M : mM) =>
    m_gR M l0 5 5 fun x1 => m_rc M x1 4 fun b4 => wJx4a65c_size_8abf5 (fun x2 M3 => ((x2 ≤ l1 → κ 1 M3) ∧ (¬ (x2 ≤ l1) → m_gR M3 l0 5 5 fun x6 => m_rc M3 x6 4 fun b9 => wJx4a65c_get_915e3 (fun x7 M8 => m_cast M8 x7 11 (m_gI M8 x7 11 1 fun x10 => ((x10 = 0 → wX0_babiesAreAhead_51 κ (wX0_babiesAreAhead_2 κ f) l0 l1 M8) ∧ (¬ (x10 = 0) → m_gR M8 l0 5 5 fun x12 => m_rc M8 x12 4 fun b15 => wJx4a65c_get_915e3 (fun x13 M14 => m_cast M14 x13 11 (m_gI M14 x13 11 1 fun x16 => ((x16 = 0 → κ 0 M14) ∧ (¬ (x16 = 0) → wX0_babiesAreAhead_51 κ (wX0_babiesAreAhead_2 κ f) l0 l1 M14)))) (some b15) (l1 - 1) M8)))) (some b9) l1 M3))) (some b4) M
def wX0_babiesAreAhead (κ : Int32 → mM → Prop) (l0 : Option Nat) (M : mM) : Prop :=
    ∃ u : Nat, wX0_babiesAreAhead_2 κ u l0 1 M
def wX0_timesInLine_30 (κ : Int32 → mM → Prop) (R4 : Option Nat → Option Nat → Int32 → Int32 → mM → Prop) (l0 : Option Nat) (l1 : Option Nat) (l2 : Int32) (l3 : Int32) (M : mM) : Prop :=
    R4 l0 l1 l2 (l3 + 1) M
def wX0_timesInLine_4 (κ : Int32 → mM → Prop) : Nat → Option Nat → Option Nat → Int32 → Int32 → mM → Prop
  | 0 => fun _ _ _ _ _ => False
  | f + 1 => fun (l0 : Option Nat) (l1 : Option Nat) (l2 : Int32) (l3 : Int32) (M : mM) =>
    m_gR M l0 5 5 fun x1 => m_rc M x1 4 fun b4 => wJx4a65c_size_8abf5 (fun x2 M3 => ((x2 ≤ l3 → κ l2 M3) ∧ (¬ (x2 ≤ l3) → m_gR M3 l0 5 5 fun x6 => m_rc M3 x6 4 fun b9 => wJx4a65c_get_915e3 (fun x7 M8 => ((x7 = l1 → wX0_timesInLine_30 κ (wX0_timesInLine_4 κ f) l0 l1 (l2 + 1) l3 M8) ∧ (¬ (x7 = l1) → wX0_timesInLine_30 κ (wX0_timesInLine_4 κ f) l0 l1 l2 l3 M8))) (some b9) l3 M3))) (some b4) M
def wX0_timesInLine (κ : Int32 → mM → Prop) (l0 : Option Nat) (l1 : Option Nat) (M : mM) : Prop :=
    ∃ u : Nat, wX0_timesInLine_4 κ u l0 l1 0 0 M
def wX1_init (κ : mM → Prop) (l0 : Option Nat) (l1 : Option Nat) (l2 : Int32) (l3 : Int32) (M : mM) : Prop :=
    ∃ b9 : Nat, l0 = some b9 ∧ m_p M l0 6 0 (va_rf l1) fun M1 => m_p M1 l0 6 1 (.int l2) fun M2 => m_p M2 l0 6 2 (.int l3) fun M3 => κ M3
def wX2_init (κ : mM → Prop) (l0 : Option Nat) (l1 : Int32) (M : mM) : Prop :=
    ∃ b9 : Nat, l0 = some b9 ∧ m_p M l0 7 1 (.int 10) fun M1 => m_p M1 l0 7 2 (.int 20) fun M2 => m_p M2 l0 7 3 (.int 5) fun M3 => m_p M3 l0 7 0 (.int l1) fun M4 => κ M4
def wX2_dutyOn (κ : Int32 → mM → Prop) (l0 : Option Nat) (l1 : Int32) (M : mM) : Prop :=
    m_gI M l0 7 2 fun x1 => ((x1 < l1 → m_gI M l0 7 2 fun x3 => m_gI M l0 7 1 fun x4 => κ (((l1 - x3) * x4) / 100) M) ∧ (¬ (x1 < l1) → κ 0 M))
def wX3_init (κ : mM → Prop) (l0 : Option Nat) (l1 : Int32) (l2 : Option Nat) (l3 : Int32) (l4 : Int32) (l5 : Int32) (M : mM) : Prop :=
    ∃ b9 : Nat, l0 = some b9 ∧ m_p M l0 8 0 (.int l1) fun M1 => m_p M1 l0 8 5 (va_rf l2) fun M2 => m_p M2 l0 8 1 (.int l3) fun M3 => m_p M3 l0 8 2 (.int l4) fun M4 => m_p M4 l0 8 3 (.int l5) fun M5 => κ M5
def wX3_isNightmare (κ : Int32 → mM → Prop) (l0 : Option Nat) (M : mM) : Prop :=
    m_gI M l0 8 3 fun x1 => ((x1 < 5 → κ 0 M) ∧ (¬ (x1 < 5) → κ 1 M))
def wX3_isIn (κ : Int32 → mM → Prop) (l0 : Option Nat) (l1 : Int32) (M : mM) : Prop :=
    m_gI M l0 8 0 fun x1 => ((((m_shr l1 x1) &&& 1) = 0 → κ 0 M) ∧ (¬ (((m_shr l1 x1) &&& 1) = 0) → κ 1 M))
def wX3_isHidden (κ : Int32 → mM → Prop) (l0 : Option Nat) (M : mM) : Prop :=
    m_gR M l0 8 5 fun x1 => ((x1 = none → κ 0 M) ∧ (¬ (x1 = none) → m_gR M l0 8 5 fun x3 => m_gI M x3 11 6 fun x4 => m_rc M l0 8 fun b7 => wX3_isIn (fun x5 M6 => ((x5 = 0 → κ 1 M6) ∧ (¬ (x5 = 0) → κ 0 M6))) (some b7) x4 M))
def wX3_whereabouts (κ : Option Nat → mM → Prop) (l0 : Option Nat) (M : mM) : Prop :=
    m_gR M l0 8 6 fun x1 => ((x1 = none → m_gR M l0 8 5 fun x3 => ((x3 = none → κ none M) ∧ (¬ (x3 = none) → m_gR M l0 8 5 fun x5 => m_gR M x5 11 2 fun x6 => κ x6 M))) ∧ (¬ (x1 = none) → m_gR M l0 8 6 fun x7 => κ x7 M))
def wX3_putInStore (κ : mM → Prop) (l0 : Option Nat) (l1 : Option Nat) (l2 : Int32) (M : mM) : Prop :=
    m_p M l0 8 5 (va_rf none) fun M1 => m_p M1 l0 8 6 (va_rf l1) fun M2 => m_p M2 l0 8 4 (.int l2) fun M3 => κ M3
def wX4_init (κ : mM → Prop) (l0 : Option Nat) (l1 : Option Nat) (l2 : Int32) (l3 : Int32) (M : mM) : Prop :=
    ∃ b9 : Nat, l0 = some b9 ∧ m_p M l0 9 0 (va_rf l1) fun M1 => m_p M1 l0 9 1 (.int l2) fun M2 => m_p M2 l0 9 2 (.int l3) fun M3 => κ M3
def wX5_init (κ : mM → Prop) (l0 : Option Nat) (M : mM) : Prop :=
    ∃ b9 : Nat, l0 = some b9 ∧ m_p M l0 10 1 (.int 3) fun M1 => κ M1
def wX5_draw (κ : Int32 → mM → Prop) (l0 : Option Nat) (M : mM) : Prop :=
    m_gI M l0 10 1 fun x1 => m_p M l0 10 1 (.int (m_rem ((21 * x1) + 11) 4096)) fun M2 => m_gI M2 l0 10 0 fun x3 => m_p M2 l0 10 0 (.int (x3 + 1)) fun M4 => κ x1 M4
def wX6_init (κ : mM → Prop) (l0 : Option Nat) (l1 : Int32) (l2 : Option Nat) (l3 : Int32) (l4 : Int32) (M : mM) : Prop :=
    ∃ b9 : Nat, l0 = some b9 ∧ m_p M l0 11 4 (.int 0) fun M1 => m_p M1 l0 11 0 (.int l1) fun M2 => m_p M2 l0 11 2 (va_rf l2) fun M3 => m_pZ M3 l0 11 1 l3 fun M4 => m_p M4 l0 11 3 (.int l4) fun M5 => κ M5
def wX6_standAt (κ : mM → Prop) (l0 : Option Nat) (l1 : Option Nat) (l2 : Int32) (M : mM) : Prop :=
    m_p M l0 11 4 (.int 1) fun M1 => m_p M1 l0 11 5 (va_rf l1) fun M2 => m_p M2 l0 11 6 (.int l2) fun M3 => κ M3
def wX6_stepOut (κ : mM → Prop) (l0 : Option Nat) (l1 : Int32) (M : mM) : Prop :=
    m_p M l0 11 4 (.int l1) fun M1 => m_p M1 l0 11 5 (va_rf none) fun M2 => m_p M2 l0 11 6 (.int 0) fun M3 => κ M3
def wX7_has_24 (κ : Int32 → mM → Prop) (s0 : Int64) (M : mM) : Prop :=
    (((lg_cmp (s0 &&& 1) 0) = 0 → κ 0 M) ∧ (¬ ((lg_cmp (s0 &&& 1) 0) = 0) → κ 1 M))
def wX7_has (κ : Int32 → mM → Prop) (l0 : Option Nat) (l1 : Int32) (M : mM) : Prop :=
    ((64 ≤ l1 → m_gJ M l0 12 1 fun x2 => wX7_has_24 κ (m_lushr x2 (l1 - 64)) M) ∧ (¬ (64 ≤ l1) → m_gJ M l0 12 0 fun x3 => wX7_has_24 κ (m_lushr x3 l1) M))
def wX7_put (κ : mM → Prop) (l0 : Option Nat) (l1 : Int32) (M : mM) : Prop :=
    ((64 ≤ l1 → m_gJ M l0 12 1 fun x2 => m_p M l0 12 1 (.long (x2 ||| (m_lshl 1 (l1 - 64)))) fun M3 => κ M3) ∧ (¬ (64 ≤ l1) → m_gJ M l0 12 0 fun x4 => m_p M l0 12 0 (.long (x4 ||| (m_lshl 1 l1))) fun M5 => κ M5))
def wX7_putAll (κ : mM → Prop) (l0 : Option Nat) (l1 : Option Nat) (M : mM) : Prop :=
    m_gJ M l0 12 0 fun x1 => m_gJ M l1 12 0 fun x2 => m_p M l0 12 0 (.long (x1 ||| x2)) fun M3 => m_gJ M3 l0 12 1 fun x4 => m_gJ M3 l1 12 1 fun x5 => m_p M3 l0 12 1 (.long (x4 ||| x5)) fun M6 => κ M6
def wX7_size (κ : Int32 → mM → Prop) (l0 : Option Nat) (M : mM) : Prop :=
    m_gJ M l0 12 0 fun x1 => wJ13_bitCount_95d88 (fun x2 M3 => m_gJ M3 l0 12 1 fun x4 => wJ13_bitCount_95d88 (fun x5 M6 => κ (x2 + x5) M6) x4 M3) x1 M
def wX8_landNumbered_10 (κ : Option Nat → mM → Prop) (ξ : String → mM → Prop) (M : mM) : Prop :=
    ξ "java/lang/IndexOutOfBoundsException" M
def wX8_landNumbered (κ : Option Nat → mM → Prop) (ξ : String → mM → Prop) (l0 : Option Nat) (l1 : Int32) (M : mM) : Prop :=
    ((l1 < 0 → wX8_landNumbered_10 κ ξ M) ∧ (¬ (l1 < 0) → ((l1 < 6 → m_gR M l0 13 0 fun x3 => m_ldR M x3 l1 3 fun x4 => κ x4 M) ∧ (¬ (l1 < 6) → wX8_landNumbered_10 κ ξ M))))
def wX8_demandRange_10 (κ : mM → Prop) (ξ : String → mM → Prop) (M : mM) : Prop :=
    ξ "java/lang/IllegalArgumentException" M
def wX8_demandRange (κ : mM → Prop) (ξ : String → mM → Prop) (l0 : Int32) (l1 : Int32) (l2 : Int32) (M : mM) : Prop :=
    ((l0 < l1 → wX8_demandRange_10 κ ξ M) ∧ (¬ (l0 < l1) → ((l0 ≤ l2 → κ M) ∧ (¬ (l0 ≤ l2) → wX8_demandRange_10 κ ξ M))))
def wX8_land (κ : Int32 → mM → Prop) (ξ : String → mM → Prop) (l0 : Option Nat) (l1 : Int32) (l2 : Int32) (l3 : Int32) (M : mM) : Prop :=
    m_rc M l0 13 fun b3 => wX8_landNumbered (fun x1 M2 => wX8_demandRange (fun M4 => wX8_demandRange (fun M5 => m_gI M5 x1 7 1 fun x6 => m_p M5 x1 7 1 (.int l2) fun M7 => m_p M7 x1 7 2 (.int l3) fun M8 => κ x6 M8) ξ l3 0 99 M4) ξ l2 0 50 M2) ξ (some b3) l1 M
def wX8_trade_23 (κ : Int32 → mM → Prop) (ξ : String → mM → Prop) (M : mM) : Prop :=
    ξ "java/lang/IllegalArgumentException" M
def wX8_trade_54 (κ : Int32 → mM → Prop) (ξ : String → mM → Prop) (M : mM) : Prop :=
    ξ "java/lang/IllegalStateException" M
def wX8_trade (κ : Int32 → mM → Prop) (ξ : String → mM → Prop) (l0 : Option Nat) (l1 : Int32) (l2 : Int32) (l3 : Int32) (M : mM) : Prop :=
    m_rc M l0 13 fun b3 => wX8_landNumbered (fun x1 M2 => m_rc M2 l0 13 fun b6 => wX8_landNumbered (fun x4 M5 => ((l1 = l2 → wX8_trade_23 κ ξ M5) ∧ (¬ (l1 = l2) → ((0 ≤ l3 → m_gI M5 x1 7 3 fun x9 => ((x9 < l3 → wX8_trade_54 κ ξ M5) ∧ (¬ (x9 < l3) → m_gI M5 x4 7 3 fun x11 => (((x11 + l3) ≤ 30 → m_gI M5 x1 7 3 fun x13 => m_p M5 x1 7 3 (.int (x13 - l3)) fun M14 => m_gI M14 x4 7 3 fun x15 => m_p M14 x4 7 3 (.int (x15 + l3)) fun M16 => m_gI M16 x4 7 3 fun x17 => κ x17 M16) ∧ (¬ ((x11 + l3) ≤ 30) → wX8_trade_54 κ ξ M5))))) ∧ (¬ (0 ≤ l3) → wX8_trade_23 κ ξ M5))))) ξ (some b6) l2 M2) ξ (some b3) l1 M
def wX8_gate (g : Nat → Nat) (κ : Int32 → mM → Prop) (ξ : String → mM → Prop) (l0 : Option Nat) (l1 : Int32) (l2 : Int32) (l3 : Int32) (l4 : Int32) (M : mM) : Prop :=
    m_rc M l0 13 fun b3 => wX8_landNumbered (fun x1 M2 => m_rc M2 l0 13 fun b6 => wX8_landNumbered (fun x4 M5 => ((l1 = l2 → ξ "java/lang/IllegalArgumentException" M5) ∧ (¬ (l1 = l2) → wX8_demandRange (fun M8 => wX8_demandRange (fun M9 => m_gR M9 l0 13 1 fun x10 => m_rc M9 x10 4 fun b13 => wJx4a65c_size_8abf5 (fun x11 M12 => ((x11 < 8 → m_new M12 5 [.int 0, .null, .null, .int 0, .int 0, .null, .null, .null, .int 0, .int 0] fun q15 M16 => m_gR M16 l0 13 1 fun x17 => m_rc M16 x17 4 fun b20 => wJx4a65c_size_8abf5 (fun x18 M19 => m_rc M19 (some q15) 5 fun b22 => wX0_init g (fun M21 => m_gR M21 l0 13 1 fun x23 => m_rc M21 x23 4 fun b26 => wJx4a65c_add_9ea2d g 10 (fun x24 M25 => m_gI M25 (some q15) 5 0 fun x27 => κ x27 M25) (some b26) (some q15) M21) (some b22) x18 x1 x4 l3 l4 M19) (some b20) M16) ∧ (¬ (x11 < 8) → ξ "java/lang/IllegalStateException" M12))) (some b13) M9) ξ l4 1 24 M8) ξ l3 0 23 M5))) ξ (some b6) l2 M2) ξ (some b3) l1 M
def wX8_gateNumbered_15 (κ : Option Nat → mM → Prop) (ξ : String → mM → Prop) (M : mM) : Prop :=
    ξ "java/lang/IndexOutOfBoundsException" M
def wX8_gateNumbered (κ : Option Nat → mM → Prop) (ξ : String → mM → Prop) (l0 : Option Nat) (l1 : Int32) (M : mM) : Prop :=
    ((l1 < 0 → wX8_gateNumbered_15 κ ξ M) ∧ (¬ (l1 < 0) → m_gR M l0 13 1 fun x2 => m_rc M x2 4 fun b5 => wJx4a65c_size_8abf5 (fun x3 M4 => ((l1 < x3 → m_gR M4 l0 13 1 fun x7 => m_rc M4 x7 4 fun b10 => wJx4a65c_get_915e3 (fun x8 M9 => m_cast M9 x8 5 (κ x8 M9)) (some b10) l1 M4) ∧ (¬ (l1 < x3) → wX8_gateNumbered_15 κ ξ M4))) (some b5) M))
def wX8_odds (κ : Int32 → mM → Prop) (ξ : String → mM → Prop) (l0 : Option Nat) (l1 : Int32) (l2 : Int32) (M : mM) : Prop :=
    m_rc M l0 13 fun b3 => wX8_gateNumbered (fun x1 M2 => wX8_demandRange (fun M4 => m_gI M4 x1 5 8 fun x5 => m_p M4 x1 5 8 (.int l2) fun M6 => κ x5 M6) ξ l2 0 10 M2) ξ (some b3) l1 M
def wX8_relieve (κ : Int32 → mM → Prop) (ξ : String → mM → Prop) (l0 : Option Nat) (l1 : Int32) (M : mM) : Prop :=
    m_rc M l0 13 fun b3 => wX8_gateNumbered (fun x1 M2 => m_gI M2 x1 5 9 fun x4 => m_p M2 x1 5 9 (.int 0) fun M5 => κ x4 M5) ξ (some b3) l1 M
def wX8_sleeper (g : Nat → Nat) (κ : Int32 → mM → Prop) (ξ : String → mM → Prop) (l0 : Option Nat) (l1 : Int32) (l2 : Int32) (l3 : Int32) (M : mM) : Prop :=
    m_rc M l0 13 fun b3 => wX8_landNumbered (fun x1 M2 => wX8_demandRange (fun M4 => m_gR M4 l0 13 2 fun x5 => m_rc M4 x5 4 fun b8 => wJx4a65c_size_8abf5 (fun x6 M7 => ((x6 < 12 → m_new M7 11 [.int 0, .int 0, .null, .int 0, .int 0, .null, .int 0, .null, .int 0] fun q10 M11 => m_gR M11 l0 13 2 fun x12 => m_rc M11 x12 4 fun b15 => wJx4a65c_size_8abf5 (fun x13 M14 => m_rc M14 (some q10) 11 fun b17 => wX6_init (fun M16 => m_gR M16 l0 13 2 fun x18 => m_rc M16 x18 4 fun b21 => wJx4a65c_add_9ea2d g 15 (fun x19 M20 => m_gI M20 (some q10) 11 0 fun x22 => κ x22 M20) (some b21) (some q10) M16) (some b17) x13 x1 l2 l3 M14) (some b15) M11) ∧ (¬ (x6 < 12) → ξ "java/lang/IllegalStateException" M7))) (some b8) M4) ξ l3 1 9 M2) ξ (some b3) l1 M
def wX8_sleeperNumbered_15 (κ : Option Nat → mM → Prop) (ξ : String → mM → Prop) (M : mM) : Prop :=
    ξ "java/lang/IndexOutOfBoundsException" M
def wX8_sleeperNumbered (κ : Option Nat → mM → Prop) (ξ : String → mM → Prop) (l0 : Option Nat) (l1 : Int32) (M : mM) : Prop :=
    ((l1 < 0 → wX8_sleeperNumbered_15 κ ξ M) ∧ (¬ (l1 < 0) → m_gR M l0 13 2 fun x2 => m_rc M x2 4 fun b5 => wJx4a65c_size_8abf5 (fun x3 M4 => ((l1 < x3 → m_gR M4 l0 13 2 fun x7 => m_rc M4 x7 4 fun b10 => wJx4a65c_get_915e3 (fun x8 M9 => m_cast M9 x8 11 (κ x8 M9)) (some b10) l1 M4) ∧ (¬ (l1 < x3) → wX8_sleeperNumbered_15 κ ξ M4))) (some b5) M))
def wX8_part_49 (g : Nat → Nat) (κ : Int32 → mM → Prop) (ξ : String → mM → Prop) (M : mM) : Prop :=
    ξ "java/lang/IllegalStateException" M
def wX8_part (g : Nat → Nat) (κ : Int32 → mM → Prop) (ξ : String → mM → Prop) (l0 : Option Nat) (l1 : Int32) (l2 : Int32) (l3 : Int32) (l4 : Int32) (M : mM) : Prop :=
    m_rc M l0 13 fun b3 => wX8_sleeperNumbered (fun x1 M2 => wX8_demandRange (fun M4 => wX8_demandRange (fun M5 => wX8_demandRange (fun M6 => m_gR M6 l0 13 3 fun x7 => m_rc M6 x7 4 fun b10 => wJx4a65c_size_8abf5 (fun x8 M9 => ((24 ≤ x8 → wX8_part_49 g κ ξ M9) ∧ (¬ (24 ≤ x8) → m_gI M9 x1 11 4 fun x12 => ((x12 = 0 → m_new M9 8 [.int 0, .int 0, .int 0, .int 0, .int 0, .null, .null, .null] fun q14 M15 => m_gR M15 l0 13 3 fun x16 => m_rc M15 x16 4 fun b19 => wJx4a65c_size_8abf5 (fun x17 M18 => m_rc M18 (some q14) 8 fun b21 => wX3_init (fun M20 => m_gR M20 l0 13 3 fun x22 => m_rc M20 x22 4 fun b25 => wJx4a65c_add_9ea2d g 33 (fun x23 M24 => m_gI M24 (some q14) 8 0 fun x26 => κ x26 M24) (some b25) (some q14) M20) (some b21) x17 x1 l2 l3 l4 M18) (some b19) M15) ∧ (¬ (x12 = 0) → wX8_part_49 g κ ξ M9))))) (some b10) M6) ξ l4 0 9 M5) ξ l3 0 99 M4) ξ l2 0 7 M2) ξ (some b3) l1 M
def wX8_partNumbered_15 (κ : Option Nat → mM → Prop) (ξ : String → mM → Prop) (M : mM) : Prop :=
    ξ "java/lang/IndexOutOfBoundsException" M
def wX8_partNumbered (κ : Option Nat → mM → Prop) (ξ : String → mM → Prop) (l0 : Option Nat) (l1 : Int32) (M : mM) : Prop :=
    ((l1 < 0 → wX8_partNumbered_15 κ ξ M) ∧ (¬ (l1 < 0) → m_gR M l0 13 3 fun x2 => m_rc M x2 4 fun b5 => wJx4a65c_size_8abf5 (fun x3 M4 => ((l1 < x3 → m_gR M4 l0 13 3 fun x7 => m_rc M4 x7 4 fun b10 => wJx4a65c_get_915e3 (fun x8 M9 => m_cast M9 x8 8 (κ x8 M9)) (some b10) l1 M4) ∧ (¬ (l1 < x3) → wX8_partNumbered_15 κ ξ M4))) (some b5) M))
def wX8_give_31 (κ : Int32 → mM → Prop) (ξ : String → mM → Prop) (M : mM) : Prop :=
    ξ "java/lang/IllegalStateException" M
def wX8_give_70 (κ : Int32 → mM → Prop) (ξ : String → mM → Prop) (M : mM) : Prop :=
    ξ "java/lang/IllegalStateException" M
def wX8_give (κ : Int32 → mM → Prop) (ξ : String → mM → Prop) (l0 : Option Nat) (l1 : Int32) (l2 : Int32) (M : mM) : Prop :=
    m_rc M l0 13 fun b3 => wX8_partNumbered (fun x1 M2 => m_rc M2 l0 13 fun b6 => wX8_sleeperNumbered (fun x4 M5 => m_gR M5 x1 8 5 fun x7 => ((x7 = none → wX8_give_31 κ ξ M5) ∧ (¬ (x7 = none) → ((x7 = x4 → wX8_give_31 κ ξ M5) ∧ (¬ (x7 = x4) → m_gR M5 x7 11 2 fun x10 => m_gR M5 x4 11 2 fun x11 => ((x10 = x11 → m_gI M5 x7 11 4 fun x13 => ((x13 = 0 → m_gI M5 x4 11 4 fun x15 => ((x15 = 0 → m_p M5 x1 8 5 (va_rf x4) fun M17 => m_gI M17 x7 11 0 fun x18 => κ x18 M17) ∧ (¬ (x15 = 0) → wX8_give_70 κ ξ M5))) ∧ (¬ (x13 = 0) → wX8_give_70 κ ξ M5))) ∧ (¬ (x10 = x11) → wX8_give_70 κ ξ M5))))))) ξ (some b6) l2 M2) ξ (some b3) l1 M
def wX8_rightVerse (κ : Int32 → mM → Prop) (l0 : Option Nat) (l1 : Option Nat) (l2 : Int32) (M : mM) : Prop :=
    m_gI M l0 11 0 fun x1 => m_gI M l1 5 0 fun x2 => κ (m_rem (((13 * x1) + (29 * x2)) + (7 * l2)) 97) M
def wX8_sing (κ : Int32 → mM → Prop) (ξ : String → mM → Prop) (l0 : Option Nat) (l1 : Int32) (l2 : Int32) (l3 : Int32) (l4 : Int32) (M : mM) : Prop :=
    m_rc M l0 13 fun b3 => wX8_sleeperNumbered (fun x1 M2 => m_rc M2 l0 13 fun b6 => wX8_gateNumbered (fun x4 M5 => m_gI M5 l0 13 8 fun x7 => wX8_demandRange (fun M8 => wX8_demandRange (fun M9 => m_new M9 9 [.null, .int 0, .int 0] fun q10 M11 => m_rc M11 (some q10) 9 fun b13 => wX4_init (fun M12 => m_p M12 x1 11 7 (va_rf (some q10)) fun M14 => wX8_rightVerse (fun x15 M16 => κ x15 M16) x1 x4 l3 M14) (some b13) x4 l3 l4 M11) ξ l4 0 96 M8) ξ l3 x7 99 M5) ξ (some b6) l2 M2) ξ (some b3) l1 M
def wX8_revoke_29 (κ : Int32 → mM → Prop) (ξ : String → mM → Prop) (l2 : Int32) (l3 : Option Nat) (s0 : Int32) (M : mM) : Prop :=
    m_gR M l3 5 6 fun x1 => m_rc M x1 12 fun b3 => wX7_put (fun M2 => ((s0 = 0 ∨ s0 = 1) ∧ κ s0 M2)) (some b3) l2 M
def wX8_revoke (κ : Int32 → mM → Prop) (ξ : String → mM → Prop) (l0 : Option Nat) (l1 : Int32) (l2 : Int32) (M : mM) : Prop :=
    m_rc M l0 13 fun b3 => wX8_gateNumbered (fun x1 M2 => wX8_demandRange (fun M4 => m_gR M4 x1 5 6 fun x5 => m_rc M4 x5 12 fun b8 => wX7_has (fun x6 M7 => ((x6 = 0 → wX8_revoke_29 κ ξ l2 x1 1 M7) ∧ (¬ (x6 = 0) → wX8_revoke_29 κ ξ l2 x1 0 M7))) (some b8) l2 M4) ξ l2 0 96 M2) ξ (some b3) l1 M
def wX8_headOf_47 (κ : Int32 → mM → Prop) (R4 : Option Nat → Option Nat → Int32 → Int32 → mM → Prop) (l0 : Option Nat) (l1 : Option Nat) (l2 : Int32) (l3 : Int32) (M : mM) : Prop :=
    R4 l0 l1 l2 (l3 + 1) M
def wX8_headOf_4 (κ : Int32 → mM → Prop) : Nat → Option Nat → Option Nat → Int32 → Int32 → mM → Prop
  | 0 => fun _ _ _ _ _ => False
  | f + 1 => fun (l0 : Option Nat) (l1 : Option Nat) (l2 : Int32) (l3 : Int32) (M : mM) =>
    m_gR M l0 13 3 fun x1 => m_rc M x1 4 fun b4 => wJx4a65c_size_8abf5 (fun x2 M3 => ((x2 ≤ l3 → κ l2 M3) ∧ (¬ (x2 ≤ l3) → m_gR M3 l0 13 3 fun x6 => m_rc M3 x6 4 fun b9 => wJx4a65c_get_915e3 (fun x7 M8 => m_cast M8 x7 8 (m_gR M8 x7 8 5 fun x10 => ((x10 = l1 → m_gI M8 x7 8 0 fun x12 => wX8_headOf_47 κ (wX8_headOf_4 κ f) l0 l1 (l2 ||| (m_shl 1 x12)) l3 M8) ∧ (¬ (x10 = l1) → wX8_headOf_47 κ (wX8_headOf_4 κ f) l0 l1 l2 l3 M8)))) (some b9) l3 M3))) (some b4) M
def wX8_headOf (κ : Int32 → mM → Prop) (l0 : Option Nat) (l1 : Option Nat) (M : mM) : Prop :=
    ∃ u : Nat, wX8_headOf_4 κ u l0 l1 0 0 M
def wX8_join_31 (g : Nat → Nat) (κ : Int32 → mM → Prop) (ξ : String → mM → Prop) (M : mM) : Prop :=
    ξ "java/lang/IllegalArgumentException" M
def wX8_join_62 (g : Nat → Nat) (κ : Int32 → mM → Prop) (ξ : String → mM → Prop) (M : mM) : Prop :=
    ξ "java/lang/IllegalStateException" M
def wX8_join_96 (g : Nat → Nat) (κ : Int32 → mM → Prop) (ξ : String → mM → Prop) (l3 : Int32) (l4 : Option Nat) (l5 : Option Nat) (s0 : Int32) (M : mM) : Prop :=
    m_gR M l5 5 5 fun x1 => m_rc M x1 4 fun b3 => wJx4a65c_add_7a177 g 15 (fun M2 => m_rc M2 l4 11 fun b5 => wX6_standAt (fun M4 => κ s0 M4) (some b5) l5 l3 M2) (some b3) s0 l4 M
def wX8_join (g : Nat → Nat) (κ : Int32 → mM → Prop) (ξ : String → mM → Prop) (l0 : Option Nat) (l1 : Int32) (l2 : Int32) (l3 : Int32) (M : mM) : Prop :=
    m_rc M l0 13 fun b3 => wX8_sleeperNumbered (fun x1 M2 => m_rc M2 l0 13 fun b6 => wX8_gateNumbered (fun x4 M5 => ((l3 < 0 → wX8_join_31 g κ ξ M5) ∧ (¬ (l3 < 0) → m_rc M5 l0 13 fun b10 => wX8_headOf (fun x8 M9 => (((l3 &&& (x8 ^^^ (-1))) = 0 → m_gI M9 x1 11 4 fun x12 => ((x12 = 0 → m_gR M9 x1 11 2 fun x14 => m_rc M9 x4 5 fun b17 => wX0_isAt (fun x15 M16 => ((x15 = 0 → wX8_join_62 g κ ξ M16) ∧ (¬ (x15 = 0) → m_gI M16 x1 11 1 fun x19 => ((x19 = 0 → m_gR M16 x4 5 5 fun x21 => m_rc M16 x21 4 fun b24 => wJx4a65c_size_8abf5 (fun x22 M23 => wX8_join_96 g κ ξ l3 x1 x4 x22 M23) (some b24) M16) ∧ (¬ (x19 = 0) → m_rc M16 x4 5 fun b27 => wX0_babiesInLine (fun x25 M26 => wX8_join_96 g κ ξ l3 x1 x4 x25 M26) (some b27) M16))))) (some b17) x14 M9) ∧ (¬ (x12 = 0) → wX8_join_62 g κ ξ M9))) ∧ (¬ ((l3 &&& (x8 ^^^ (-1))) = 0) → wX8_join_31 g κ ξ M9))) (some b10) x1 M5))) ξ (some b6) l2 M2) ξ (some b3) l1 M
def wX8_placeOf_19 (κ : Int32 → mM → Prop) : Nat → Option Nat → Option Nat → Int32 → mM → Prop
  | 0 => fun _ _ _ _ => False
  | f + 1 => fun (l0 : Option Nat) (l1 : Option Nat) (l2 : Int32) (M : mM) =>
    m_rc M l1 4 fun b3 => wJx4a65c_size_8abf5 (fun x1 M2 => ((x1 ≤ l2 → κ (-1) M2) ∧ (¬ (x1 ≤ l2) → m_rc M2 l1 4 fun b7 => wJx4a65c_get_915e3 (fun x5 M6 => ((x5 = l0 → κ l2 M6) ∧ (¬ (x5 = l0) → (wX8_placeOf_19 κ f) l0 l1 (l2 + 1) M6))) (some b7) l2 M2))) (some b3) M
def wX8_placeOf (κ : Int32 → mM → Prop) (l0 : Option Nat) (M : mM) : Prop :=
    m_gR M l0 11 5 fun x1 => ((x1 = none → κ (-1) M) ∧ (¬ (x1 = none) → m_gR M l0 11 5 fun x3 => m_gR M x3 5 5 fun x4 => ∃ u : Nat, wX8_placeOf_19 κ u l0 x4 0 M))
def wX8_leave_23 (κ : Int32 → mM → Prop) (ξ : String → mM → Prop) (M : mM) : Prop :=
    ξ "java/lang/IllegalStateException" M
def wX8_leave (κ : Int32 → mM → Prop) (ξ : String → mM → Prop) (l0 : Option Nat) (l1 : Int32) (M : mM) : Prop :=
    m_rc M l0 13 fun b3 => wX8_sleeperNumbered (fun x1 M2 => wX8_placeOf (fun x4 M5 => m_gR M5 x1 11 5 fun x6 => ((x6 = none → wX8_leave_23 κ ξ M5) ∧ (¬ (x6 = none) → ((x4 = (-1) → wX8_leave_23 κ ξ M5) ∧ (¬ (x4 = (-1)) → m_gR M5 x1 11 5 fun x9 => m_gR M5 x9 5 5 fun x10 => m_rc M5 x10 4 fun b13 => wJx4a65c_remove_915e3 (fun x11 M12 => m_rc M12 x1 11 fun b15 => wX6_stepOut (fun M14 => κ x4 M14) (some b15) 0 M12) (some b13) x4 M5))))) x1 M2) ξ (some b3) l1 M
def wX8_passIsGood (κ : Int32 → mM → Prop) (l0 : Option Nat) (l1 : Option Nat) (l2 : Option Nat) (M : mM) : Prop :=
    m_gR M l1 11 7 fun x1 => ((x1 = none → κ 0 M) ∧ (¬ (x1 = none) → m_gR M x1 9 0 fun x3 => ((x3 = l2 → m_gI M x1 9 1 fun x5 => m_gI M l0 13 8 fun x6 => ((x5 = x6 → m_gI M x1 9 2 fun x8 => m_gI M l0 13 8 fun x9 => wX8_rightVerse (fun x10 M11 => m_rc M11 l2 5 fun b14 => wX0_dozes (fun x12 M13 => ((x12 = 0 → (((m_abs (x8 - x10)) = 0 → m_gR M13 l2 5 6 fun x17 => m_gI M13 x1 9 2 fun x18 => m_rc M13 x17 12 fun b21 => wX7_has (fun x19 M20 => ((x19 = 0 → κ 1 M20) ∧ (¬ (x19 = 0) → κ 0 M20))) (some b21) x18 M13) ∧ (¬ ((m_abs (x8 - x10)) = 0) → κ 0 M13))) ∧ (¬ (x12 = 0) → ((1 < (m_abs (x8 - x10)) → κ 0 M13) ∧ (¬ (1 < (m_abs (x8 - x10))) → κ 1 M13))))) (some b14) M11) l1 l2 x9 M) ∧ (¬ (x5 = x6) → κ 0 M))) ∧ (¬ (x3 = l2) → κ 0 M))))
def wX8_keepHiding_100 (g : Nat → Nat) (κ : mM → Prop) (R15 : Option Nat → Option Nat → Int32 → Int32 → mM → Prop) (l0 : Option Nat) (l1 : Option Nat) (l2 : Int32) (l3 : Int32) (M : mM) : Prop :=
    R15 l0 l1 l2 (l3 + 1) M
def wX8_keepHiding_15 (g : Nat → Nat) (κ : mM → Prop) : Nat → Option Nat → Option Nat → Int32 → Int32 → mM → Prop
  | 0 => fun _ _ _ _ _ => False
  | f + 1 => fun (l0 : Option Nat) (l1 : Option Nat) (l2 : Int32) (l3 : Int32) (M : mM) =>
    m_gR M l0 13 4 fun x1 => m_rc M x1 4 fun b4 => wJx4a65c_size_8abf5 (fun x2 M3 => ((x2 ≤ l3 → m_gR M3 l0 13 4 fun x6 => m_new M3 6 [.null, .int 0, .int 0] fun q7 M8 => m_gI M8 l0 13 8 fun x9 => m_rc M8 (some q7) 6 fun b11 => wX1_init (fun M10 => m_rc M10 x6 4 fun b14 => wJx4a65c_add_9ea2d g 49 (fun x12 M13 => κ M13) (some b14) (some q7) M10) (some b11) l1 l2 x9 M8) ∧ (¬ (x2 ≤ l3) → m_gR M3 l0 13 4 fun x15 => m_rc M3 x15 4 fun b18 => wJx4a65c_get_915e3 (fun x16 M17 => m_cast M17 x16 6 (m_gI M17 x16 6 1 fun x19 => ((x19 = l2 → m_gI M17 l0 13 8 fun x21 => m_gI M17 x16 6 2 fun x22 => ((2 < (x21 - x22) → wX8_keepHiding_100 g κ (wX8_keepHiding_15 g κ f) l0 l1 l2 l3 M17) ∧ (¬ (2 < (x21 - x22)) → m_gR M17 x16 6 0 fun x24 => m_gI M17 x24 11 8 fun x25 => m_gI M17 l1 11 0 fun x26 => m_p M17 x24 11 8 (.int (x25 ||| (m_shl 1 x26))) fun M27 => m_gI M27 l1 11 8 fun x28 => m_gR M27 x16 6 0 fun x29 => m_gI M27 x29 11 0 fun x30 => m_p M27 l1 11 8 (.int (x28 ||| (m_shl 1 x30))) fun M31 => wX8_keepHiding_100 g κ (wX8_keepHiding_15 g κ f) l0 l1 l2 l3 M31))) ∧ (¬ (x19 = l2) → wX8_keepHiding_100 g κ (wX8_keepHiding_15 g κ f) l0 l1 l2 l3 M17)))) (some b18) l3 M3))) (some b4) M
def wX8_keepHiding (g : Nat → Nat) (κ : mM → Prop) (l0 : Option Nat) (l1 : Option Nat) (l2 : Int32) (M : mM) : Prop :=
    m_gR M l0 13 4 fun x1 => m_rc M x1 4 fun b4 => wJx4a65c_size_8abf5 (fun x2 M3 => ((x2 < 40 → ∃ u : Nat, wX8_keepHiding_15 g κ u l0 l1 l2 0 M3) ∧ (¬ (x2 < 40) → κ M3))) (some b4) M
def wX8_bringHidden_105 (g : Nat → Nat) (κ : Int32 → mM → Prop) (R6 : Nat → Nat → Option Nat → Option Nat → Option Nat → Int32 → Int32 → Int32 → mM → Prop) (k9 n9 : Nat) (l0 : Option Nat) (l1 : Option Nat) (l2 : Option Nat) (l3 : Int32) (l4 : Int32) (l5 : Int32) (M : mM) : Prop :=
    ((k9 ≤ 48 ∧ n9 ≤ 1248) ∧ R6 k9 n9 l0 l1 l2 l3 l4 (l5 + 1) M)
def wX8_bringHidden_6 (g : Nat → Nat) (κ : Int32 → mM → Prop) : Nat → Nat → Nat → Option Nat → Option Nat → Option Nat → Int32 → Int32 → Int32 → mM → Prop
  | 0 => fun _ _ _ _ _ _ _ _ _ => False
  | f + 1 => fun (k9 n9 : Nat) (l0 : Option Nat) (l1 : Option Nat) (l2 : Option Nat) (l3 : Int32) (l4 : Int32) (l5 : Int32) (M : mM) =>
    ((k9 ≤ 48 ∧ n9 ≤ 1248) ∧ m_gR M l0 13 3 fun x1 => m_rc M x1 4 fun b4 => wJx4a65c_size_8abf5 (fun x2 M3 => ((x2 ≤ l5 → ((k9 ≤ 48 ∧ n9 ≤ 1248) ∧ κ l4 M3)) ∧ (¬ (x2 ≤ l5) → m_gR M3 l0 13 3 fun x6 => m_rc M3 x6 4 fun b9 => wJx4a65c_get_915e3 (fun x7 M8 => m_cast M8 x7 8 (m_gR M8 x7 8 5 fun x10 => ((x10 = l1 → m_rc M8 x7 8 fun b14 => wX3_isHidden (fun x12 M13 => ((x12 = 0 → wX8_bringHidden_105 g κ (wX8_bringHidden_6 g κ f) k9 n9 l0 l1 l2 l3 l4 l5 M13) ∧ (¬ (x12 = 0) → m_gI M13 x7 8 1 fun x16 => ((k9 + 2 ≤ 48 ∧ n9 + 52 ≤ 1248) ∧ m_rc M13 l0 13 fun b18 => wX8_keepHiding g (fun M17 => m_p M17 x7 8 7 (va_rf l1) fun M19 => ((l3 = 0 → m_p M19 x7 8 4 (.int 4) fun M21 => wX8_bringHidden_105 g κ (wX8_bringHidden_6 g κ f) (k9 + 2) (n9 + 52) l0 l1 l2 l3 l4 l5 M21) ∧ (¬ (l3 = 0) → m_rc M19 x7 8 fun b23 => wX3_putInStore (fun M22 => m_gI M22 l2 7 6 fun x24 => m_gI M22 x7 8 2 fun x25 => m_p M22 l2 7 6 (.int (x24 + x25)) fun M26 => wX8_bringHidden_105 g κ (wX8_bringHidden_6 g κ f) (k9 + 2) (n9 + 52) l0 l1 l2 l3 (l4 + 1) l5 M26) (some b23) l2 3 M19))) (some b18) l1 x16 M13)))) (some b14) M8) ∧ (¬ (x10 = l1) → wX8_bringHidden_105 g κ (wX8_bringHidden_6 g κ f) k9 n9 l0 l1 l2 l3 l4 l5 M8)))) (some b9) l5 M3))) (some b4) M)
def wX8_bringHidden (g : Nat → Nat) (κ : Int32 → mM → Prop) (l0 : Option Nat) (l1 : Option Nat) (l2 : Option Nat) (l3 : Int32) (M : mM) : Prop :=
    ∃ u : Nat, wX8_bringHidden_6 g κ u 0 0 l0 l1 l2 l3 0 0 M
def wX8_partsThatComeIn_90 (κ : Int32 → mM → Prop) (R11 : Option Nat → Option Nat → Option Nat → Int32 → Int32 → Int32 → mM → Prop) (l0 : Option Nat) (l1 : Option Nat) (l2 : Option Nat) (l3 : Int32) (l4 : Int32) (l5 : Int32) (M : mM) : Prop :=
    R11 l0 l1 l2 l3 l4 (l5 + 1) M
def wX8_partsThatComeIn_69 (κ : Int32 → mM → Prop) (R11 : Option Nat → Option Nat → Option Nat → Int32 → Int32 → Int32 → mM → Prop) (l0 : Option Nat) (l1 : Option Nat) (l2 : Option Nat) (l3 : Int32) (l4 : Int32) (l5 : Int32) (l6 : Option Nat) (M : mM) : Prop :=
    m_gI M l6 8 0 fun x1 => m_rc M l6 8 fun b4 => wX3_isNightmare (fun x2 M3 => ((x2 = 0 → wX8_partsThatComeIn_90 κ R11 l0 l1 l2 (l3 ||| (m_shl 1 x1)) l4 l5 M3) ∧ (¬ (x2 = 0) → wX8_partsThatComeIn_90 κ R11 l0 l1 l2 (l3 ||| (m_shl 1 x1)) (l4 + 1) l5 M3))) (some b4) M
def wX8_partsThatComeIn_11 (κ : Int32 → mM → Prop) : Nat → Option Nat → Option Nat → Option Nat → Int32 → Int32 → Int32 → mM → Prop
  | 0 => fun _ _ _ _ _ _ _ => False
  | f + 1 => fun (l0 : Option Nat) (l1 : Option Nat) (l2 : Option Nat) (l3 : Int32) (l4 : Int32) (l5 : Int32) (M : mM) =>
    m_gR M l0 13 3 fun x1 => m_rc M x1 4 fun b4 => wJx4a65c_size_8abf5 (fun x2 M3 => ((x2 ≤ l5 → κ l3 M3) ∧ (¬ (x2 ≤ l5) → m_gR M3 l0 13 3 fun x6 => m_rc M3 x6 4 fun b9 => wJx4a65c_get_915e3 (fun x7 M8 => m_cast M8 x7 8 (m_gI M8 l1 11 6 fun x10 => m_rc M8 x7 8 fun b13 => wX3_isIn (fun x11 M12 => ((x11 = 0 → wX8_partsThatComeIn_90 κ (wX8_partsThatComeIn_11 κ f) l0 l1 l2 l3 l4 l5 M12) ∧ (¬ (x11 = 0) → m_rc M12 x7 8 fun b17 => wX3_isNightmare (fun x15 M16 => ((x15 = 0 → wX8_partsThatComeIn_69 κ (wX8_partsThatComeIn_11 κ f) l0 l1 l2 l3 l4 l5 x7 M16) ∧ (¬ (x15 = 0) → m_gI M16 l2 7 3 fun x19 => ((l4 < x19 → wX8_partsThatComeIn_69 κ (wX8_partsThatComeIn_11 κ f) l0 l1 l2 l3 l4 l5 x7 M16) ∧ (¬ (l4 < x19) → wX8_partsThatComeIn_90 κ (wX8_partsThatComeIn_11 κ f) l0 l1 l2 l3 l4 l5 M16))))) (some b17) M12))) (some b13) x10 M8)) (some b9) l5 M3))) (some b4) M
def wX8_partsThatComeIn (κ : Int32 → mM → Prop) (l0 : Option Nat) (l1 : Option Nat) (l2 : Option Nat) (M : mM) : Prop :=
    m_gI M l2 7 4 fun x1 => ∃ u : Nat, wX8_partsThatComeIn_11 κ u l0 l1 l2 0 x1 0 M
def wX8_worthOf_45 (κ : Int32 → mM → Prop) (R4 : Option Nat → Int32 → Int32 → Int32 → mM → Prop) (l0 : Option Nat) (l1 : Int32) (l2 : Int32) (l3 : Int32) (M : mM) : Prop :=
    R4 l0 l1 l2 (l3 + 1) M
def wX8_worthOf_4 (κ : Int32 → mM → Prop) : Nat → Option Nat → Int32 → Int32 → Int32 → mM → Prop
  | 0 => fun _ _ _ _ _ => False
  | f + 1 => fun (l0 : Option Nat) (l1 : Int32) (l2 : Int32) (l3 : Int32) (M : mM) =>
    m_gR M l0 13 3 fun x1 => m_rc M x1 4 fun b4 => wJx4a65c_size_8abf5 (fun x2 M3 => ((x2 ≤ l3 → κ l2 M3) ∧ (¬ (x2 ≤ l3) → m_gR M3 l0 13 3 fun x6 => m_rc M3 x6 4 fun b9 => wJx4a65c_get_915e3 (fun x7 M8 => m_cast M8 x7 8 (m_rc M8 x7 8 fun b12 => wX3_isIn (fun x10 M11 => ((x10 = 0 → wX8_worthOf_45 κ (wX8_worthOf_4 κ f) l0 l1 l2 l3 M11) ∧ (¬ (x10 = 0) → m_gI M11 x7 8 2 fun x14 => wX8_worthOf_45 κ (wX8_worthOf_4 κ f) l0 l1 (l2 + x14) l3 M11))) (some b12) l1 M8)) (some b9) l3 M3))) (some b4) M
def wX8_worthOf (κ : Int32 → mM → Prop) (l0 : Option Nat) (l1 : Int32) (M : mM) : Prop :=
    ∃ u : Nat, wX8_worthOf_4 κ u l0 l1 0 0 M
def wX8_bringDeclared_121 (κ : mM → Prop) (R33 : Option Nat → Option Nat → Option Nat → Int32 → Int32 → Int32 → Int32 → mM → Prop) (l0 : Option Nat) (l1 : Option Nat) (l2 : Option Nat) (l3 : Int32) (l4 : Int32) (l5 : Int32) (l6 : Int32) (M : mM) : Prop :=
    R33 l0 l1 l2 l3 l4 l5 (l6 + 1) M
def wX8_bringDeclared_33 (κ : mM → Prop) : Nat → Option Nat → Option Nat → Option Nat → Int32 → Int32 → Int32 → Int32 → mM → Prop
  | 0 => fun _ _ _ _ _ _ _ _ => False
  | f + 1 => fun (l0 : Option Nat) (l1 : Option Nat) (l2 : Option Nat) (l3 : Int32) (l4 : Int32) (l5 : Int32) (l6 : Int32) (M : mM) =>
    m_gR M l0 13 3 fun x1 => m_rc M x1 4 fun b4 => wJx4a65c_size_8abf5 (fun x2 M3 => ((x2 ≤ l6 → m_gI M3 l2 7 5 fun x6 => m_rc M3 l2 7 fun b9 => wX2_dutyOn (fun x7 M8 => m_p M8 l2 7 5 (.int (x6 + x7)) fun M10 => κ M10) (some b9) l4 M3) ∧ (¬ (x2 ≤ l6) → m_gR M3 l0 13 3 fun x11 => m_rc M3 x11 4 fun b14 => wJx4a65c_get_915e3 (fun x12 M13 => m_cast M13 x12 8 (m_gI M13 l1 11 6 fun x15 => m_rc M13 x12 8 fun b18 => wX3_isIn (fun x16 M17 => ((x16 = 0 → wX8_bringDeclared_121 κ (wX8_bringDeclared_33 κ f) l0 l1 l2 l3 l4 l5 l6 M17) ∧ (¬ (x16 = 0) → m_rc M17 x12 8 fun b22 => wX3_isIn (fun x20 M21 => ((x20 = 0 → m_gR M21 l1 11 2 fun x31 => m_rc M21 x12 8 fun b33 => wX3_putInStore (fun M32 => wX8_bringDeclared_121 κ (wX8_bringDeclared_33 κ f) l0 l1 l2 l3 l4 l5 l6 M32) (some b33) x31 5 M21) ∧ (¬ (x20 = 0) → m_p M21 x12 8 4 (.int l5) fun M24 => m_rc M24 x12 8 fun b27 => wX3_isNightmare (fun x25 M26 => ((x25 = 0 → wX8_bringDeclared_121 κ (wX8_bringDeclared_33 κ f) l0 l1 l2 l3 l4 l5 l6 M26) ∧ (¬ (x25 = 0) → m_gI M26 l2 7 4 fun x29 => m_p M26 l2 7 4 (.int (x29 + 1)) fun M30 => wX8_bringDeclared_121 κ (wX8_bringDeclared_33 κ f) l0 l1 l2 l3 l4 l5 l6 M30))) (some b27) M24))) (some b22) l3 M17))) (some b18) x15 M13)) (some b14) l6 M3))) (some b4) M
def wX8_bringDeclared_28 (κ : mM → Prop) (l0 : Option Nat) (l1 : Option Nat) (l2 : Option Nat) (l3 : Int32) (l4 : Int32) (s0 : Int32) (M : mM) : Prop :=
    ∃ u : Nat, wX8_bringDeclared_33 κ u l0 l1 l2 l3 l4 s0 0 M
def wX8_bringDeclared (κ : mM → Prop) (l0 : Option Nat) (l1 : Option Nat) (l2 : Option Nat) (M : mM) : Prop :=
    m_rc M l0 13 fun b3 => wX8_partsThatComeIn (fun x1 M2 => m_rc M2 l0 13 fun b6 => wX8_worthOf (fun x4 M5 => m_gI M5 l2 7 2 fun x7 => ((x7 < x4 → wX8_bringDeclared_28 κ l0 l1 l2 x1 x4 1 M5) ∧ (¬ (x7 < x4) → wX8_bringDeclared_28 κ l0 l1 l2 x1 x4 2 M5))) (some b6) x1 M2) (some b3) l1 l2 M
def wX8_comeThrough_38 (g : Nat → Nat) (κ : Int32 → mM → Prop) (l0 : Option Nat) (l1 : Option Nat) (l3 : Option Nat) (s0 : Int32) (M : mM) : Prop :=
    m_rc M l0 13 fun b3 => wX8_bringHidden g (fun x1 M2 => m_rc M2 l0 13 fun b5 => wX8_bringDeclared (fun M4 => m_p M4 l1 11 2 (va_rf l3) fun M6 => m_p M6 l1 11 7 (va_rf none) fun M7 => κ x1 M7) (some b5) l1 l3 M2) (some b3) l1 l3 s0 M
def wX8_comeThrough_37 (g : Nat → Nat) (κ : Int32 → mM → Prop) (l0 : Option Nat) (l1 : Option Nat) (l3 : Option Nat) (M : mM) : Prop :=
    wX8_comeThrough_38 g κ l0 l1 l3 0 M
def wX8_comeThrough (g : Nat → Nat) (κ : Int32 → mM → Prop) (l0 : Option Nat) (l1 : Option Nat) (l2 : Option Nat) (M : mM) : Prop :=
    m_gR M l1 11 2 fun x1 => m_rc M l2 5 fun b4 => wX0_across (fun x2 M3 => m_rc M3 l2 5 fun b7 => wX0_dozes (fun x5 M6 => ((x5 = 0 → m_gR M6 l0 13 5 fun x9 => m_rc M6 x9 10 fun b12 => wX5_draw (fun x10 M11 => m_gI M11 l2 5 8 fun x13 => ((x13 ≤ (m_rem x10 10) → wX8_comeThrough_37 g κ l0 l1 x2 M11) ∧ (¬ (x13 ≤ (m_rem x10 10)) → wX8_comeThrough_38 g κ l0 l1 x2 1 M11))) (some b12) M6) ∧ (¬ (x5 = 0) → wX8_comeThrough_37 g κ l0 l1 x2 M6))) (some b7) M3) (some b4) x1 M
def wX8_wake_43 (κ : mM → Prop) (R7 : Option Nat → Option Nat → Int32 → mM → Prop) (l0 : Option Nat) (l1 : Option Nat) (l2 : Int32) (M : mM) : Prop :=
    R7 l0 l1 (l2 + 1) M
def wX8_wake_7 (κ : mM → Prop) : Nat → Option Nat → Option Nat → Int32 → mM → Prop
  | 0 => fun _ _ _ _ => False
  | f + 1 => fun (l0 : Option Nat) (l1 : Option Nat) (l2 : Int32) (M : mM) =>
    m_gR M l0 13 3 fun x1 => m_rc M x1 4 fun b4 => wJx4a65c_size_8abf5 (fun x2 M3 => ((x2 ≤ l2 → κ M3) ∧ (¬ (x2 ≤ l2) → m_gR M3 l0 13 3 fun x6 => m_rc M3 x6 4 fun b9 => wJx4a65c_get_915e3 (fun x7 M8 => m_cast M8 x7 8 (m_gR M8 x7 8 5 fun x10 => ((x10 = l1 → m_p M8 x7 8 5 (va_rf none) fun M12 => wX8_wake_43 κ (wX8_wake_7 κ f) l0 l1 l2 M12) ∧ (¬ (x10 = l1) → wX8_wake_43 κ (wX8_wake_7 κ f) l0 l1 l2 M8)))) (some b9) l2 M3))) (some b4) M
def wX8_wake (κ : mM → Prop) (l0 : Option Nat) (l1 : Option Nat) (M : mM) : Prop :=
    m_rc M l1 11 fun b2 => wX6_stepOut (fun M1 => ∃ u : Nat, wX8_wake_7 κ u l0 l1 0 M1) (some b2) 2 M
def wX8_tireThoseWhoStand_57 (κ : mM → Prop) (R10 : Option Nat → Option Nat → Int32 → mM → Prop) (l0 : Option Nat) (l1 : Option Nat) (l2 : Int32) (M : mM) : Prop :=
    R10 l0 l1 (l2 + (-1)) M
def wX8_tireThoseWhoStand_10 (κ : mM → Prop) : Nat → Option Nat → Option Nat → Int32 → mM → Prop
  | 0 => fun _ _ _ _ => False
  | f + 1 => fun (l0 : Option Nat) (l1 : Option Nat) (l2 : Int32) (M : mM) =>
    ((l2 < 0 → κ M) ∧ (¬ (l2 < 0) → m_gR M l1 5 5 fun x2 => m_rc M x2 4 fun b5 => wJx4a65c_get_915e3 (fun x3 M4 => m_cast M4 x3 11 (m_gI M4 x3 11 3 fun x6 => m_p M4 x3 11 3 (.int (x6 - 1)) fun M7 => m_gI M7 x3 11 3 fun x8 => ((0 < x8 → wX8_tireThoseWhoStand_57 κ (wX8_tireThoseWhoStand_10 κ f) l0 l1 l2 M7) ∧ (¬ (0 < x8) → m_gR M7 l1 5 5 fun x10 => m_rc M7 x10 4 fun b13 => wJx4a65c_remove_915e3 (fun x11 M12 => m_rc M12 l0 13 fun b15 => wX8_wake (fun M14 => wX8_tireThoseWhoStand_57 κ (wX8_tireThoseWhoStand_10 κ f) l0 l1 l2 M14) (some b15) x3 M12) (some b13) l2 M7)))) (some b5) l2 M))
def wX8_tireThoseWhoStand (κ : mM → Prop) (l0 : Option Nat) (l1 : Option Nat) (M : mM) : Prop :=
    m_gR M l1 5 5 fun x1 => m_rc M x1 4 fun b4 => wJx4a65c_size_8abf5 (fun x2 M3 => ∃ u : Nat, wX8_tireThoseWhoStand_10 κ u l0 l1 (x2 - 1) M3) (some b4) M
def wX8_yawn_27 (g : Nat → Nat) (κ : Int32 → mM → Prop) (ξ : String → mM → Prop) (M : mM) : Prop :=
    ξ "java/lang/IllegalStateException" M
def wX8_yawn_87 (g : Nat → Nat) (κ : Int32 → mM → Prop) (ξ : String → mM → Prop) (l0 : Option Nat) (l2 : Option Nat) (l3 : Option Nat) (s0 : Int32) (M : mM) : Prop :=
    m_rc M l3 11 fun b2 => wX6_stepOut (fun M1 => m_rc M1 l0 13 fun b4 => wX8_tireThoseWhoStand (fun M3 => κ s0 M3) (some b4) l2 M1) (some b2) 0 M
def wX8_yawn (g : Nat → Nat) (κ : Int32 → mM → Prop) (ξ : String → mM → Prop) (l0 : Option Nat) (l1 : Int32) (M : mM) : Prop :=
    m_rc M l0 13 fun b3 => wX8_gateNumbered (fun x1 M2 => m_gI M2 l0 13 9 fun x4 => m_rc M2 x1 5 fun b7 => wX0_isOpenAt (fun x5 M6 => ((x5 = 0 → wX8_yawn_27 g κ ξ M6) ∧ (¬ (x5 = 0) → m_gR M6 x1 5 5 fun x9 => m_rc M6 x9 4 fun b12 => wJx4a65c_isEmpty_aae02 (fun x10 M11 => ((x10 = 0 → m_gI M11 l0 13 10 fun x14 => m_p M11 l0 13 10 (.int (x14 + 1)) fun M15 => m_gR M15 x1 5 5 fun x16 => m_rc M15 x16 4 fun b19 => wJx4a65c_get_915e3 (fun x17 M18 => m_cast M18 x17 11 (m_gR M18 x1 5 5 fun x20 => m_rc M18 x20 4 fun b23 => wJx4a65c_remove_915e3 (fun x21 M22 => m_rc M22 l0 13 fun b26 => wX8_passIsGood (fun x24 M25 => ((x24 = 0 → wX8_yawn_87 g κ ξ l0 x1 x17 (-1) M25) ∧ (¬ (x24 = 0) → m_rc M25 l0 13 fun b30 => wX8_comeThrough g (fun x28 M29 => wX8_yawn_87 g κ ξ l0 x1 x17 x28 M29) (some b30) x17 x1 M25))) (some b26) x17 x1 M22) (some b23) 0 M18)) (some b19) 0 M15) ∧ (¬ (x10 = 0) → wX8_yawn_27 g κ ξ M11))) (some b12) M6))) (some b7) x4 M2) ξ (some b3) l1 M
def wX8_appeal_34 (κ : Int32 → mM → Prop) (ξ : String → mM → Prop) (M : mM) : Prop :=
    ξ "java/lang/IllegalStateException" M
def wX8_appeal (κ : Int32 → mM → Prop) (ξ : String → mM → Prop) (l0 : Option Nat) (l1 : Int32) (M : mM) : Prop :=
    m_rc M l0 13 fun b3 => wX8_partNumbered (fun x1 M2 => m_gR M2 x1 8 6 fun x4 => m_gR M2 x1 8 7 fun x5 => m_gI M2 x1 8 4 fun x6 => ((x6 = 3 → ((x4 = none → wX8_appeal_34 κ ξ M2) ∧ (¬ (x4 = none) → ((x5 = none → wX8_appeal_34 κ ξ M2) ∧ (¬ (x5 = none) → m_gI M2 x1 8 2 fun x10 => m_gI M2 x4 7 2 fun x11 => ((x11 < x10 → κ 0 M2) ∧ (¬ (x11 < x10) → m_gR M2 x5 11 2 fun x13 => ((x13 = x4 → m_gI M2 x5 11 4 fun x15 => ((x15 = 0 → m_p M2 x1 8 6 (va_rf none) fun M17 => m_p M17 x1 8 5 (va_rf x5) fun M18 => m_p M18 x1 8 4 (.int 2) fun M19 => m_gI M19 x4 7 6 fun x20 => m_gI M19 x1 8 2 fun x21 => m_p M19 x4 7 6 (.int (x20 - x21)) fun M22 => κ 1 M22) ∧ (¬ (x15 = 0) → κ 0 M2))) ∧ (¬ (x13 = x4) → κ 0 M2))))))))) ∧ (¬ (x6 = 3) → wX8_appeal_34 κ ξ M2))) ξ (some b3) l1 M
def wX8_beginNight_93 (κ : mM → Prop) (R44 : Option Nat → Int32 → mM → Prop) (l0 : Option Nat) (l1 : Int32) (M : mM) : Prop :=
    R44 l0 (l1 + 1) M
def wX8_beginNight_44 (κ : mM → Prop) : Nat → Option Nat → Int32 → mM → Prop
  | 0 => fun _ _ _ => False
  | f + 1 => fun (l0 : Option Nat) (l1 : Int32) (M : mM) =>
    m_gR M l0 13 2 fun x1 => m_rc M x1 4 fun b4 => wJx4a65c_size_8abf5 (fun x2 M3 => ((x2 ≤ l1 → κ M3) ∧ (¬ (x2 ≤ l1) → m_gR M3 l0 13 2 fun x6 => m_rc M3 x6 4 fun b9 => wJx4a65c_get_915e3 (fun x7 M8 => m_cast M8 x7 11 (m_gR M8 x7 11 7 fun x10 => ((x10 = none → wX8_beginNight_93 κ (wX8_beginNight_44 κ f) l0 l1 M8) ∧ (¬ (x10 = none) → m_gR M8 x7 11 7 fun x12 => m_gI M8 x12 9 1 fun x13 => m_gI M8 l0 13 8 fun x14 => ((x14 ≤ x13 → wX8_beginNight_93 κ (wX8_beginNight_44 κ f) l0 l1 M8) ∧ (¬ (x14 ≤ x13) → m_p M8 x7 11 7 (va_rf none) fun M16 => wX8_beginNight_93 κ (wX8_beginNight_44 κ f) l0 l1 M16)))))) (some b9) l1 M3))) (some b4) M
def wX8_beginNight_20 (κ : mM → Prop) : Nat → Option Nat → Option Nat → Int32 → Int32 → mM → Prop
  | 0 => fun _ _ _ _ _ => False
  | f + 1 => fun (l0 : Option Nat) (l1 : Option Nat) (l2 : Int32) (l3 : Int32) (M : mM) =>
    ((l2 ≤ l3 → ∃ u : Nat, wX8_beginNight_44 κ u l0 0 M) ∧ (¬ (l2 ≤ l3) → m_ldR M l1 l3 3 fun x2 => m_p M x2 7 4 (.int 0) fun M3 => (wX8_beginNight_20 κ f) l0 l1 l2 (l3 + 1) M3))
def wX8_beginNight (κ : mM → Prop) (l0 : Option Nat) (M : mM) : Prop :=
    m_gI M l0 13 8 fun x1 => m_p M l0 13 8 (.int (x1 + 1)) fun M2 => m_gR M2 l0 13 0 fun x3 => m_len M2 x3 fun x4 => ∃ u : Nat, wX8_beginNight_20 κ u l0 x3 x4 0 M2
def wX8_spreadRevoked_101 (κ : mM → Prop) : Nat → Option Nat → Int32 → mM → Prop
  | 0 => fun _ _ _ => False
  | f + 1 => fun (l0 : Option Nat) (l1 : Int32) (M : mM) =>
    m_gR M l0 13 1 fun x1 => m_rc M x1 4 fun b4 => wJx4a65c_size_8abf5 (fun x2 M3 => ((x2 ≤ l1 → κ M3) ∧ (¬ (x2 ≤ l1) → m_gR M3 l0 13 1 fun x6 => m_rc M3 x6 4 fun b9 => wJx4a65c_get_915e3 (fun x7 M8 => m_cast M8 x7 5 (m_gR M8 x7 5 6 fun x10 => m_gR M8 x7 5 7 fun x11 => m_rc M8 x10 12 fun b13 => wX7_putAll (fun M12 => (wX8_spreadRevoked_101 κ f) l0 (l1 + 1) M12) (some b13) x11 M8)) (some b9) l1 M3))) (some b4) M
def wX8_spreadRevoked_87 (κ : mM → Prop) (R2 : Option Nat → Int32 → mM → Prop) (R27 : Option Nat → Int32 → Option Nat → Int32 → mM → Prop) (l0 : Option Nat) (l1 : Int32) (l2 : Option Nat) (l3 : Int32) (M : mM) : Prop :=
    R27 l0 l1 l2 (l3 + 1) M
def wX8_spreadRevoked_75 (κ : mM → Prop) (R2 : Option Nat → Int32 → mM → Prop) (R27 : Option Nat → Int32 → Option Nat → Int32 → mM → Prop) (l0 : Option Nat) (l1 : Int32) (l2 : Option Nat) (l3 : Int32) (l4 : Option Nat) (M : mM) : Prop :=
    m_gR M l2 5 7 fun x1 => m_gR M l4 5 6 fun x2 => m_rc M x1 12 fun b4 => wX7_putAll (fun M3 => wX8_spreadRevoked_87 κ R2 R27 l0 l1 l2 l3 M3) (some b4) x2 M
def wX8_spreadRevoked_27 (κ : mM → Prop) (R2 : Option Nat → Int32 → mM → Prop) : Nat → Option Nat → Int32 → Option Nat → Int32 → mM → Prop
  | 0 => fun _ _ _ _ _ => False
  | f + 1 => fun (l0 : Option Nat) (l1 : Int32) (l2 : Option Nat) (l3 : Int32) (M : mM) =>
    m_gR M l0 13 1 fun x1 => m_rc M x1 4 fun b4 => wJx4a65c_size_8abf5 (fun x2 M3 => ((x2 ≤ l3 → R2 l0 (l1 + 1) M3) ∧ (¬ (x2 ≤ l3) → m_gR M3 l0 13 1 fun x6 => m_rc M3 x6 4 fun b9 => wJx4a65c_get_915e3 (fun x7 M8 => m_cast M8 x7 5 (m_gR M8 x7 5 1 fun x10 => m_rc M8 l2 5 fun b13 => wX0_isAt (fun x11 M12 => ((x11 = 0 → m_gR M12 x7 5 2 fun x15 => m_rc M12 l2 5 fun b18 => wX0_isAt (fun x16 M17 => ((x16 = 0 → wX8_spreadRevoked_87 κ R2 (wX8_spreadRevoked_27 κ R2 f) l0 l1 l2 l3 M17) ∧ (¬ (x16 = 0) → wX8_spreadRevoked_75 κ R2 (wX8_spreadRevoked_27 κ R2 f) l0 l1 l2 l3 x7 M17))) (some b18) x15 M12) ∧ (¬ (x11 = 0) → wX8_spreadRevoked_75 κ R2 (wX8_spreadRevoked_27 κ R2 f) l0 l1 l2 l3 x7 M12))) (some b13) x10 M8)) (some b9) l3 M3))) (some b4) M
def wX8_spreadRevoked_2 (κ : mM → Prop) : Nat → Option Nat → Int32 → mM → Prop
  | 0 => fun _ _ _ => False
  | f + 1 => fun (l0 : Option Nat) (l1 : Int32) (M : mM) =>
    m_gR M l0 13 1 fun x1 => m_rc M x1 4 fun b4 => wJx4a65c_size_8abf5 (fun x2 M3 => ((x2 ≤ l1 → ∃ u : Nat, wX8_spreadRevoked_101 κ u l0 0 M3) ∧ (¬ (x2 ≤ l1) → m_gR M3 l0 13 1 fun x6 => m_rc M3 x6 4 fun b9 => wJx4a65c_get_915e3 (fun x7 M8 => m_cast M8 x7 5 (∃ u : Nat, wX8_spreadRevoked_27 κ (wX8_spreadRevoked_2 κ f) u l0 l1 x7 0 M8)) (some b9) l1 M3))) (some b4) M
def wX8_spreadRevoked (κ : mM → Prop) (l0 : Option Nat) (M : mM) : Prop :=
    ∃ u : Nat, wX8_spreadRevoked_2 κ u l0 0 M
def wX8_beginHour_79 (κ : mM → Prop) (R34 : Option Nat → Int32 → mM → Prop) (l0 : Option Nat) (l1 : Int32) (s0 : Int32) (s1 : Option Nat) (M : mM) : Prop :=
    m_p M s1 5 9 (.int s0) fun M1 => R34 l0 (l1 + 1) M1
def wX8_beginHour_34 (κ : mM → Prop) : Nat → Option Nat → Int32 → mM → Prop
  | 0 => fun _ _ _ => False
  | f + 1 => fun (l0 : Option Nat) (l1 : Int32) (M : mM) =>
    m_gR M l0 13 1 fun x1 => m_rc M x1 4 fun b4 => wJx4a65c_size_8abf5 (fun x2 M3 => ((x2 ≤ l1 → κ M3) ∧ (¬ (x2 ≤ l1) → m_gR M3 l0 13 1 fun x6 => m_rc M3 x6 4 fun b9 => wJx4a65c_get_915e3 (fun x7 M8 => m_cast M8 x7 5 (m_gI M8 l0 13 9 fun x10 => m_rc M8 x7 5 fun b13 => wX0_isOpenAt (fun x11 M12 => ((x11 = 0 → wX8_beginHour_79 κ (wX8_beginHour_34 κ f) l0 l1 0 x7 M12) ∧ (¬ (x11 = 0) → m_gI M12 x7 5 9 fun x15 => wX8_beginHour_79 κ (wX8_beginHour_34 κ f) l0 l1 (x15 + 1) x7 M12))) (some b13) x10 M8)) (some b9) l1 M3))) (some b4) M
def wX8_beginHour_28 (κ : mM → Prop) (l0 : Option Nat) (M : mM) : Prop :=
    m_rc M l0 13 fun b2 => wX8_spreadRevoked (fun M1 => ∃ u : Nat, wX8_beginHour_34 κ u l0 0 M1) (some b2) M
def wX8_beginHour (κ : mM → Prop) (l0 : Option Nat) (M : mM) : Prop :=
    m_gI M l0 13 9 fun x1 => m_p M l0 13 9 (.int (x1 + 1)) fun M2 => m_gI M2 l0 13 9 fun x3 => ((x3 = 24 → m_p M2 l0 13 9 (.int 0) fun M5 => m_rc M5 l0 13 fun b7 => wX8_beginNight (fun M6 => wX8_beginHour_28 κ l0 M6) (some b7) M5) ∧ (¬ (x3 = 24) → wX8_beginHour_28 κ l0 M2))
def wX8_pass_39 (κ : Int32 → mM → Prop) (ξ : String → mM → Prop) : Nat → Option Nat → Int32 → Int32 → mM → Prop
  | 0 => fun _ _ _ _ => False
  | f + 1 => fun (l0 : Option Nat) (l1 : Int32) (l2 : Int32) (M : mM) =>
    ((l1 ≤ l2 → m_gI M l0 13 9 fun x2 => κ x2 M) ∧ (¬ (l1 ≤ l2) → m_rc M l0 13 fun b4 => wX8_beginHour (fun M3 => (wX8_pass_39 κ ξ f) l0 l1 (l2 + 1) M3) (some b4) M))
def wX8_pass (κ : Int32 → mM → Prop) (ξ : String → mM → Prop) (l0 : Option Nat) (l1 : Int32) (M : mM) : Prop :=
    wX8_demandRange (fun M1 => m_gI M1 l0 13 8 fun x2 => m_gI M1 l0 13 9 fun x3 => (((x2 + ((x3 + l1) / 24)) ≤ 99 → ∃ u : Nat, wX8_pass_39 κ ξ u l0 l1 0 M1) ∧ (¬ ((x2 + ((x3 + l1) / 24)) ≤ 99) → ξ "java/lang/IllegalStateException" M1))) ξ l1 1 48 M
def wX8_partsInStore_36 (κ : Int32 → mM → Prop) (R4 : Option Nat → Option Nat → Int32 → Int32 → mM → Prop) (l0 : Option Nat) (l1 : Option Nat) (l2 : Int32) (l3 : Int32) (M : mM) : Prop :=
    R4 l0 l1 l2 (l3 + 1) M
def wX8_partsInStore_4 (κ : Int32 → mM → Prop) : Nat → Option Nat → Option Nat → Int32 → Int32 → mM → Prop
  | 0 => fun _ _ _ _ _ => False
  | f + 1 => fun (l0 : Option Nat) (l1 : Option Nat) (l2 : Int32) (l3 : Int32) (M : mM) =>
    m_gR M l0 13 3 fun x1 => m_rc M x1 4 fun b4 => wJx4a65c_size_8abf5 (fun x2 M3 => ((x2 ≤ l3 → κ l2 M3) ∧ (¬ (x2 ≤ l3) → m_gR M3 l0 13 3 fun x6 => m_rc M3 x6 4 fun b9 => wJx4a65c_get_915e3 (fun x7 M8 => m_cast M8 x7 8 (m_gR M8 x7 8 6 fun x10 => ((x10 = l1 → wX8_partsInStore_36 κ (wX8_partsInStore_4 κ f) l0 l1 (l2 + 1) l3 M8) ∧ (¬ (x10 = l1) → wX8_partsInStore_36 κ (wX8_partsInStore_4 κ f) l0 l1 l2 l3 M8)))) (some b9) l3 M3))) (some b4) M
def wX8_partsInStore (κ : Int32 → mM → Prop) (l0 : Option Nat) (l1 : Option Nat) (M : mM) : Prop :=
    ∃ u : Nat, wX8_partsInStore_4 κ u l0 l1 0 0 M
def wX8_sleepersIn_49 (κ : Int32 → mM → Prop) (R4 : Option Nat → Option Nat → Int32 → Int32 → mM → Prop) (l0 : Option Nat) (l1 : Option Nat) (l2 : Int32) (l3 : Int32) (M : mM) : Prop :=
    R4 l0 l1 l2 (l3 + 1) M
def wX8_sleepersIn_4 (κ : Int32 → mM → Prop) : Nat → Option Nat → Option Nat → Int32 → Int32 → mM → Prop
  | 0 => fun _ _ _ _ _ => False
  | f + 1 => fun (l0 : Option Nat) (l1 : Option Nat) (l2 : Int32) (l3 : Int32) (M : mM) =>
    m_gR M l0 13 2 fun x1 => m_rc M x1 4 fun b4 => wJx4a65c_size_8abf5 (fun x2 M3 => ((x2 ≤ l3 → κ l2 M3) ∧ (¬ (x2 ≤ l3) → m_gR M3 l0 13 2 fun x6 => m_rc M3 x6 4 fun b9 => wJx4a65c_get_915e3 (fun x7 M8 => m_cast M8 x7 11 (m_gR M8 x7 11 2 fun x10 => ((x10 = l1 → m_gI M8 x7 11 4 fun x12 => ((x12 = 2 → wX8_sleepersIn_49 κ (wX8_sleepersIn_4 κ f) l0 l1 l2 l3 M8) ∧ (¬ (x12 = 2) → wX8_sleepersIn_49 κ (wX8_sleepersIn_4 κ f) l0 l1 (l2 + 1) l3 M8))) ∧ (¬ (x10 = l1) → wX8_sleepersIn_49 κ (wX8_sleepersIn_4 κ f) l0 l1 l2 l3 M8)))) (some b9) l3 M3))) (some b4) M
def wX8_sleepersIn (κ : Int32 → mM → Prop) (l0 : Option Nat) (l1 : Option Nat) (M : mM) : Prop :=
    ∃ u : Nat, wX8_sleepersIn_4 κ u l0 l1 0 0 M
def wX8_wholeDreams_65 (κ : Int32 → mM → Prop) (R7 : Option Nat → Option Nat → Int32 → Int32 → Int32 → mM → Prop) (l0 : Option Nat) (l1 : Option Nat) (l2 : Int32) (l3 : Int32) (l4 : Int32) (M : mM) : Prop :=
    R7 l0 l1 l2 l3 (l4 + 1) M
def wX8_wholeDreams_7 (κ : Int32 → mM → Prop) : Nat → Option Nat → Option Nat → Int32 → Int32 → Int32 → mM → Prop
  | 0 => fun _ _ _ _ _ _ => False
  | f + 1 => fun (l0 : Option Nat) (l1 : Option Nat) (l2 : Int32) (l3 : Int32) (l4 : Int32) (M : mM) =>
    m_gR M l0 13 3 fun x1 => m_rc M x1 4 fun b4 => wJx4a65c_size_8abf5 (fun x2 M3 => ((x2 ≤ l4 → κ (l2 &&& (l3 ^^^ (-1))) M3) ∧ (¬ (x2 ≤ l4) → m_gR M3 l0 13 3 fun x6 => m_rc M3 x6 4 fun b9 => wJx4a65c_get_915e3 (fun x7 M8 => m_cast M8 x7 8 (m_rc M8 x7 8 fun b12 => wX3_whereabouts (fun x10 M11 => ((x10 = l1 → m_gI M11 x7 8 1 fun x15 => wX8_wholeDreams_65 κ (wX8_wholeDreams_7 κ f) l0 l1 (l2 ||| (m_shl 1 x15)) l3 l4 M11) ∧ (¬ (x10 = l1) → m_gI M11 x7 8 1 fun x14 => wX8_wholeDreams_65 κ (wX8_wholeDreams_7 κ f) l0 l1 l2 (l3 ||| (m_shl 1 x14)) l4 M11))) (some b12) M8)) (some b9) l4 M3))) (some b4) M
def wX8_wholeDreams (κ : Int32 → mM → Prop) (l0 : Option Nat) (l1 : Option Nat) (M : mM) : Prop :=
    ∃ u : Nat, wX8_wholeDreams_7 κ u l0 l1 0 0 0 M
def wX8_ofLand (κ : Int32 → mM → Prop) (ξ : String → mM → Prop) (l0 : Option Nat) (l1 : Int32) (l2 : Int32) (M : mM) : Prop :=
    m_rc M l0 13 fun b3 => wX8_landNumbered (fun x1 M2 => ((l2 = 0 → m_gI M2 x1 7 1 fun x5 => κ x5 M2) ∧ (¬ l2 = 0 → ((l2 = 1 → m_gI M2 x1 7 2 fun x7 => κ x7 M2) ∧ (¬ l2 = 1 → ((l2 = 2 → m_gI M2 x1 7 3 fun x9 => κ x9 M2) ∧ (¬ l2 = 2 → ((l2 = 3 → m_gI M2 x1 7 4 fun x11 => κ x11 M2) ∧ (¬ l2 = 3 → ((l2 = 4 → m_gI M2 x1 7 5 fun x13 => κ x13 M2) ∧ (¬ l2 = 4 → ((l2 = 5 → m_gI M2 x1 7 6 fun x15 => κ x15 M2) ∧ (¬ l2 = 5 → ((l2 = 6 → m_rc M2 l0 13 fun b19 => wX8_partsInStore (fun x17 M18 => κ x17 M18) (some b19) x1 M2) ∧ (¬ l2 = 6 → ((l2 = 7 → m_rc M2 l0 13 fun b23 => wX8_sleepersIn (fun x21 M22 => κ x21 M22) (some b23) x1 M2) ∧ (¬ l2 = 7 → ((l2 = 8 → m_rc M2 l0 13 fun b27 => wX8_wholeDreams (fun x25 M26 => κ x25 M26) (some b27) x1 M2) ∧ (¬ l2 = 8 → ξ "java/lang/IllegalArgumentException" M2))))))))))))))))))) ξ (some b3) l1 M
def wX8_hiddenWorth_64 (κ : Int32 → mM → Prop) (R4 : Option Nat → Option Nat → Int32 → Int32 → mM → Prop) (l0 : Option Nat) (l1 : Option Nat) (l2 : Int32) (l3 : Int32) (M : mM) : Prop :=
    R4 l0 l1 l2 (l3 + 1) M
def wX8_hiddenWorth_4 (κ : Int32 → mM → Prop) : Nat → Option Nat → Option Nat → Int32 → Int32 → mM → Prop
  | 0 => fun _ _ _ _ _ => False
  | f + 1 => fun (l0 : Option Nat) (l1 : Option Nat) (l2 : Int32) (l3 : Int32) (M : mM) =>
    m_gR M l0 13 3 fun x1 => m_rc M x1 4 fun b4 => wJx4a65c_size_8abf5 (fun x2 M3 => ((x2 ≤ l3 → κ l2 M3) ∧ (¬ (x2 ≤ l3) → m_gR M3 l0 13 3 fun x6 => m_rc M3 x6 4 fun b9 => wJx4a65c_get_915e3 (fun x7 M8 => m_cast M8 x7 8 (m_gR M8 x7 8 5 fun x10 => ((x10 = none → wX8_hiddenWorth_64 κ (wX8_hiddenWorth_4 κ f) l0 l1 l2 l3 M8) ∧ (¬ (x10 = none) → m_gR M8 x7 8 5 fun x12 => m_gR M8 x12 11 5 fun x13 => ((x13 = l1 → m_rc M8 x7 8 fun b17 => wX3_isHidden (fun x15 M16 => ((x15 = 0 → wX8_hiddenWorth_64 κ (wX8_hiddenWorth_4 κ f) l0 l1 l2 l3 M16) ∧ (¬ (x15 = 0) → m_gI M16 x7 8 2 fun x19 => wX8_hiddenWorth_64 κ (wX8_hiddenWorth_4 κ f) l0 l1 (l2 + x19) l3 M16))) (some b17) M8) ∧ (¬ (x13 = l1) → wX8_hiddenWorth_64 κ (wX8_hiddenWorth_4 κ f) l0 l1 l2 l3 M8)))))) (some b9) l3 M3))) (some b4) M
def wX8_hiddenWorth (κ : Int32 → mM → Prop) (l0 : Option Nat) (l1 : Option Nat) (M : mM) : Prop :=
    ∃ u : Nat, wX8_hiddenWorth_4 κ u l0 l1 0 0 M
def wX8_ofGate (κ : Int32 → mM → Prop) (ξ : String → mM → Prop) (l0 : Option Nat) (l1 : Int32) (l2 : Int32) (M : mM) : Prop :=
    m_rc M l0 13 fun b3 => wX8_gateNumbered (fun x1 M2 => ((l2 = 0 → m_gR M2 x1 5 1 fun x5 => m_gI M2 x5 7 0 fun x6 => κ x6 M2) ∧ (¬ l2 = 0 → ((l2 = 1 → m_gR M2 x1 5 2 fun x8 => m_gI M2 x8 7 0 fun x9 => κ x9 M2) ∧ (¬ l2 = 1 → ((l2 = 2 → m_gI M2 l0 13 9 fun x11 => m_rc M2 x1 5 fun b14 => wX0_isOpenAt (fun x12 M13 => ((x12 = 0 → κ 0 M13) ∧ (¬ (x12 = 0) → κ 1 M13))) (some b14) x11 M2) ∧ (¬ l2 = 2 → ((l2 = 3 → m_gI M2 x1 5 8 fun x17 => κ x17 M2) ∧ (¬ l2 = 3 → ((l2 = 4 → m_gI M2 x1 5 9 fun x19 => κ x19 M2) ∧ (¬ l2 = 4 → ((l2 = 5 → m_rc M2 x1 5 fun b23 => wX0_dozes (fun x21 M22 => ((x21 = 0 → κ 0 M22) ∧ (¬ (x21 = 0) → κ 1 M22))) (some b23) M2) ∧ (¬ l2 = 5 → ((l2 = 6 → m_gR M2 x1 5 5 fun x26 => m_rc M2 x26 4 fun b29 => wJx4a65c_size_8abf5 (fun x27 M28 => κ x27 M28) (some b29) M2) ∧ (¬ l2 = 6 → ((l2 = 7 → m_gR M2 x1 5 5 fun x31 => m_rc M2 x31 4 fun b34 => wJx4a65c_isEmpty_aae02 (fun x32 M33 => ((x32 = 0 → m_gR M33 x1 5 5 fun x36 => m_rc M33 x36 4 fun b39 => wJx4a65c_get_915e3 (fun x37 M38 => m_cast M38 x37 11 (m_gI M38 x37 11 0 fun x40 => κ x40 M38)) (some b39) 0 M33) ∧ (¬ (x32 = 0) → κ (-1) M33))) (some b34) M2) ∧ (¬ l2 = 7 → ((l2 = 8 → m_rc M2 l0 13 fun b44 => wX8_hiddenWorth (fun x42 M43 => κ x42 M43) (some b44) x1 M2) ∧ (¬ l2 = 8 → ((l2 = 9 → m_gR M2 x1 5 6 fun x46 => m_rc M2 x46 12 fun b49 => wX7_size (fun x47 M48 => κ x47 M48) (some b49) M2) ∧ (¬ l2 = 9 → ξ "java/lang/IllegalArgumentException" M2))))))))))))))))))))) ξ (some b3) l1 M
def wX8_linksOf_40 (κ : Int32 → mM → Prop) (R4 : Option Nat → Int32 → Int32 → Int32 → mM → Prop) (l0 : Option Nat) (l1 : Int32) (l2 : Int32) (l3 : Int32) (M : mM) : Prop :=
    R4 l0 l1 l2 (l3 + 1) M
def wX8_linksOf_4 (κ : Int32 → mM → Prop) : Nat → Option Nat → Int32 → Int32 → Int32 → mM → Prop
  | 0 => fun _ _ _ _ _ => False
  | f + 1 => fun (l0 : Option Nat) (l1 : Int32) (l2 : Int32) (l3 : Int32) (M : mM) =>
    m_gR M l0 13 2 fun x1 => m_rc M x1 4 fun b4 => wJx4a65c_size_8abf5 (fun x2 M3 => ((x2 ≤ l3 → κ l2 M3) ∧ (¬ (x2 ≤ l3) → ((((m_shr l1 l3) &&& 1) = 0 → wX8_linksOf_40 κ (wX8_linksOf_4 κ f) l0 l1 l2 l3 M3) ∧ (¬ (((m_shr l1 l3) &&& 1) = 0) → m_gR M3 l0 13 2 fun x7 => m_rc M3 x7 4 fun b10 => wJx4a65c_get_915e3 (fun x8 M9 => m_cast M9 x8 11 (m_gI M9 x8 11 8 fun x11 => wX8_linksOf_40 κ (wX8_linksOf_4 κ f) l0 l1 (l2 ||| x11) l3 M9)) (some b10) l3 M3))))) (some b4) M
def wX8_linksOf (κ : Int32 → mM → Prop) (l0 : Option Nat) (l1 : Int32) (M : mM) : Prop :=
    ∃ u : Nat, wX8_linksOf_4 κ u l0 l1 0 0 M
def wX8_ringOf_9 (κ : Int32 → mM → Prop) : Nat → Option Nat → Int32 → Int32 → mM → Prop
  | 0 => fun _ _ _ _ => False
  | f + 1 => fun (l0 : Option Nat) (l2 : Int32) (l3 : Int32) (M : mM) =>
    ((12 ≤ l3 → κ l2 M) ∧ (¬ (12 ≤ l3) → m_rc M l0 13 fun b4 => wX8_linksOf (fun x2 M3 => (((l2 ||| x2) = l2 → κ l2 M3) ∧ (¬ ((l2 ||| x2) = l2) → (wX8_ringOf_9 κ f) l0 (l2 ||| x2) (l3 + 1) M3))) (some b4) l2 M))
def wX8_ringOf (κ : Int32 → mM → Prop) (l0 : Option Nat) (l1 : Option Nat) (M : mM) : Prop :=
    m_gI M l1 11 0 fun x1 => ∃ u : Nat, wX8_ringOf_9 κ u l0 (m_shl 1 x1) 0 M
def wX8_hidingsOf_36 (κ : Int32 → mM → Prop) (R4 : Option Nat → Option Nat → Int32 → Int32 → mM → Prop) (l0 : Option Nat) (l1 : Option Nat) (l2 : Int32) (l3 : Int32) (M : mM) : Prop :=
    R4 l0 l1 l2 (l3 + 1) M
def wX8_hidingsOf_4 (κ : Int32 → mM → Prop) : Nat → Option Nat → Option Nat → Int32 → Int32 → mM → Prop
  | 0 => fun _ _ _ _ _ => False
  | f + 1 => fun (l0 : Option Nat) (l1 : Option Nat) (l2 : Int32) (l3 : Int32) (M : mM) =>
    m_gR M l0 13 4 fun x1 => m_rc M x1 4 fun b4 => wJx4a65c_size_8abf5 (fun x2 M3 => ((x2 ≤ l3 → κ l2 M3) ∧ (¬ (x2 ≤ l3) → m_gR M3 l0 13 4 fun x6 => m_rc M3 x6 4 fun b9 => wJx4a65c_get_915e3 (fun x7 M8 => m_cast M8 x7 6 (m_gR M8 x7 6 0 fun x10 => ((x10 = l1 → wX8_hidingsOf_36 κ (wX8_hidingsOf_4 κ f) l0 l1 (l2 + 1) l3 M8) ∧ (¬ (x10 = l1) → wX8_hidingsOf_36 κ (wX8_hidingsOf_4 κ f) l0 l1 l2 l3 M8)))) (some b9) l3 M3))) (some b4) M
def wX8_hidingsOf (κ : Int32 → mM → Prop) (l0 : Option Nat) (l1 : Option Nat) (M : mM) : Prop :=
    ∃ u : Nat, wX8_hidingsOf_4 κ u l0 l1 0 0 M
def wX8_ofSleeper (κ : Int32 → mM → Prop) (ξ : String → mM → Prop) (l0 : Option Nat) (l1 : Int32) (l2 : Int32) (M : mM) : Prop :=
    m_rc M l0 13 fun b3 => wX8_sleeperNumbered (fun x1 M2 => ((l2 = 0 → m_gR M2 x1 11 2 fun x5 => m_gI M2 x5 7 0 fun x6 => κ x6 M2) ∧ (¬ l2 = 0 → ((l2 = 1 → m_gI M2 x1 11 3 fun x8 => κ x8 M2) ∧ (¬ l2 = 1 → ((l2 = 2 → m_gI M2 x1 11 4 fun x10 => κ x10 M2) ∧ (¬ l2 = 2 → ((l2 = 3 → m_gR M2 x1 11 5 fun x12 => ((x12 = none → κ (-1) M2) ∧ (¬ (x12 = none) → m_gR M2 x1 11 5 fun x14 => m_gI M2 x14 5 0 fun x15 => κ x15 M2))) ∧ (¬ l2 = 3 → ((l2 = 4 → wX8_placeOf (fun x17 M18 => κ x17 M18) x1 M2) ∧ (¬ l2 = 4 → ((l2 = 5 → m_rc M2 l0 13 fun b22 => wX8_headOf (fun x20 M21 => κ x20 M21) (some b22) x1 M2) ∧ (¬ l2 = 5 → ((l2 = 6 → m_gR M2 x1 11 7 fun x24 => ((x24 = none → κ (-1) M2) ∧ (¬ (x24 = none) → m_gR M2 x1 11 7 fun x26 => m_gI M2 x26 9 2 fun x27 => κ x27 M2))) ∧ (¬ l2 = 6 → ((l2 = 7 → m_rc M2 l0 13 fun b31 => wX8_ringOf (fun x29 M30 => κ x29 M30) (some b31) x1 M2) ∧ (¬ l2 = 7 → ((l2 = 8 → m_rc M2 l0 13 fun b35 => wX8_hidingsOf (fun x33 M34 => κ x33 M34) (some b35) x1 M2) ∧ (¬ l2 = 8 → ξ "java/lang/IllegalArgumentException" M2))))))))))))))))))) ξ (some b3) l1 M
def wX8_ofPart (κ : Int32 → mM → Prop) (ξ : String → mM → Prop) (l0 : Option Nat) (l1 : Int32) (l2 : Int32) (M : mM) : Prop :=
    m_rc M l0 13 fun b3 => wX8_partNumbered (fun x1 M2 => ((l2 = 0 → m_gI M2 x1 8 1 fun x5 => κ x5 M2) ∧ (¬ l2 = 0 → ((l2 = 1 → m_gI M2 x1 8 2 fun x7 => κ x7 M2) ∧ (¬ l2 = 1 → ((l2 = 2 → m_gI M2 x1 8 3 fun x9 => κ x9 M2) ∧ (¬ l2 = 2 → ((l2 = 3 → m_gI M2 x1 8 4 fun x11 => κ x11 M2) ∧ (¬ l2 = 3 → ((l2 = 4 → m_rc M2 x1 8 fun b15 => wX3_whereabouts (fun x13 M14 => ((x13 = none → κ (-1) M14) ∧ (¬ (x13 = none) → m_rc M14 x1 8 fun b19 => wX3_whereabouts (fun x17 M18 => m_gI M18 x17 7 0 fun x20 => κ x20 M18) (some b19) M14))) (some b15) M2) ∧ (¬ l2 = 4 → ((l2 = 5 → m_gR M2 x1 8 5 fun x22 => ((x22 = none → κ (-1) M2) ∧ (¬ (x22 = none) → m_gR M2 x1 8 5 fun x24 => m_gI M2 x24 11 0 fun x25 => κ x25 M2))) ∧ (¬ l2 = 5 → ξ "java/lang/IllegalArgumentException" M2))))))))))))) ξ (some b3) l1 M
def wX8_awakeOnes_36 (κ : Int32 → mM → Prop) (R4 : Option Nat → Int32 → Int32 → mM → Prop) (l0 : Option Nat) (l1 : Int32) (l2 : Int32) (M : mM) : Prop :=
    R4 l0 l1 (l2 + 1) M
def wX8_awakeOnes_4 (κ : Int32 → mM → Prop) : Nat → Option Nat → Int32 → Int32 → mM → Prop
  | 0 => fun _ _ _ _ => False
  | f + 1 => fun (l0 : Option Nat) (l1 : Int32) (l2 : Int32) (M : mM) =>
    m_gR M l0 13 2 fun x1 => m_rc M x1 4 fun b4 => wJx4a65c_size_8abf5 (fun x2 M3 => ((x2 ≤ l2 → κ l1 M3) ∧ (¬ (x2 ≤ l2) → m_gR M3 l0 13 2 fun x6 => m_rc M3 x6 4 fun b9 => wJx4a65c_get_915e3 (fun x7 M8 => m_cast M8 x7 11 (m_gI M8 x7 11 4 fun x10 => ((x10 = 2 → wX8_awakeOnes_36 κ (wX8_awakeOnes_4 κ f) l0 (l1 + 1) l2 M8) ∧ (¬ (x10 = 2) → wX8_awakeOnes_36 κ (wX8_awakeOnes_4 κ f) l0 l1 l2 M8)))) (some b9) l2 M3))) (some b4) M
def wX8_awakeOnes (κ : Int32 → mM → Prop) (l0 : Option Nat) (M : mM) : Prop :=
    ∃ u : Nat, wX8_awakeOnes_4 κ u l0 0 0 M
def wX8_partsOfFate_36 (κ : Int32 → mM → Prop) (R4 : Option Nat → Int32 → Int32 → Int32 → mM → Prop) (l0 : Option Nat) (l1 : Int32) (l2 : Int32) (l3 : Int32) (M : mM) : Prop :=
    R4 l0 l1 l2 (l3 + 1) M
def wX8_partsOfFate_4 (κ : Int32 → mM → Prop) : Nat → Option Nat → Int32 → Int32 → Int32 → mM → Prop
  | 0 => fun _ _ _ _ _ => False
  | f + 1 => fun (l0 : Option Nat) (l1 : Int32) (l2 : Int32) (l3 : Int32) (M : mM) =>
    m_gR M l0 13 3 fun x1 => m_rc M x1 4 fun b4 => wJx4a65c_size_8abf5 (fun x2 M3 => ((x2 ≤ l3 → κ l2 M3) ∧ (¬ (x2 ≤ l3) → m_gR M3 l0 13 3 fun x6 => m_rc M3 x6 4 fun b9 => wJx4a65c_get_915e3 (fun x7 M8 => m_cast M8 x7 8 (m_gI M8 x7 8 4 fun x10 => ((x10 = l1 → wX8_partsOfFate_36 κ (wX8_partsOfFate_4 κ f) l0 l1 (l2 + 1) l3 M8) ∧ (¬ (x10 = l1) → wX8_partsOfFate_36 κ (wX8_partsOfFate_4 κ f) l0 l1 l2 l3 M8)))) (some b9) l3 M3))) (some b4) M
def wX8_partsOfFate (κ : Int32 → mM → Prop) (l0 : Option Nat) (l1 : Int32) (M : mM) : Prop :=
    ∃ u : Nat, wX8_partsOfFate_4 κ u l0 l1 0 0 M
def wX8_goneParts_35 (κ : Int32 → mM → Prop) (R4 : Option Nat → Int32 → Int32 → mM → Prop) (l0 : Option Nat) (l1 : Int32) (l2 : Int32) (M : mM) : Prop :=
    R4 l0 l1 (l2 + 1) M
def wX8_goneParts_4 (κ : Int32 → mM → Prop) : Nat → Option Nat → Int32 → Int32 → mM → Prop
  | 0 => fun _ _ _ _ => False
  | f + 1 => fun (l0 : Option Nat) (l1 : Int32) (l2 : Int32) (M : mM) =>
    m_gR M l0 13 3 fun x1 => m_rc M x1 4 fun b4 => wJx4a65c_size_8abf5 (fun x2 M3 => ((x2 ≤ l2 → κ l1 M3) ∧ (¬ (x2 ≤ l2) → m_gR M3 l0 13 3 fun x6 => m_rc M3 x6 4 fun b9 => wJx4a65c_get_915e3 (fun x7 M8 => m_cast M8 x7 8 (m_rc M8 x7 8 fun b12 => wX3_whereabouts (fun x10 M11 => ((x10 = none → wX8_goneParts_35 κ (wX8_goneParts_4 κ f) l0 (l1 + 1) l2 M11) ∧ (¬ (x10 = none) → wX8_goneParts_35 κ (wX8_goneParts_4 κ f) l0 l1 l2 M11))) (some b12) M8)) (some b9) l2 M3))) (some b4) M
def wX8_goneParts (κ : Int32 → mM → Prop) (l0 : Option Nat) (M : mM) : Prop :=
    ∃ u : Nat, wX8_goneParts_4 κ u l0 0 0 M
def wX8_dutiesOfAll_13 (κ : Int32 → mM → Prop) : Nat → Int32 → Option Nat → Int32 → Int32 → mM → Prop
  | 0 => fun _ _ _ _ _ => False
  | f + 1 => fun (l1 : Int32) (l2 : Option Nat) (l3 : Int32) (l4 : Int32) (M : mM) =>
    ((l3 ≤ l4 → κ l1 M) ∧ (¬ (l3 ≤ l4) → m_ldR M l2 l4 3 fun x2 => m_gI M x2 7 5 fun x3 => (wX8_dutiesOfAll_13 κ f) (l1 + x3) l2 l3 (l4 + 1) M))
def wX8_dutiesOfAll (κ : Int32 → mM → Prop) (l0 : Option Nat) (M : mM) : Prop :=
    m_gR M l0 13 0 fun x1 => m_len M x1 fun x2 => ∃ u : Nat, wX8_dutiesOfAll_13 κ u 0 x1 x2 0 M
def wX8_finesOfAll_13 (κ : Int32 → mM → Prop) : Nat → Int32 → Option Nat → Int32 → Int32 → mM → Prop
  | 0 => fun _ _ _ _ _ => False
  | f + 1 => fun (l1 : Int32) (l2 : Option Nat) (l3 : Int32) (l4 : Int32) (M : mM) =>
    ((l3 ≤ l4 → κ l1 M) ∧ (¬ (l3 ≤ l4) → m_ldR M l2 l4 3 fun x2 => m_gI M x2 7 6 fun x3 => (wX8_finesOfAll_13 κ f) (l1 + x3) l2 l3 (l4 + 1) M))
def wX8_finesOfAll (κ : Int32 → mM → Prop) (l0 : Option Nat) (M : mM) : Prop :=
    m_gR M l0 13 0 fun x1 => m_len M x1 fun x2 => ∃ u : Nat, wX8_finesOfAll_13 κ u 0 x1 x2 0 M
def wX8_night (κ : Int32 → mM → Prop) (ξ : String → mM → Prop) (l0 : Option Nat) (l1 : Int32) (M : mM) : Prop :=
    ((l1 = 0 → m_gI M l0 13 8 fun x2 => κ x2 M) ∧ (¬ l1 = 0 → ((l1 = 1 → m_gI M l0 13 9 fun x4 => κ x4 M) ∧ (¬ l1 = 1 → ((l1 = 2 → m_gR M l0 13 1 fun x6 => m_rc M x6 4 fun b9 => wJx4a65c_size_8abf5 (fun x7 M8 => κ x7 M8) (some b9) M) ∧ (¬ l1 = 2 → ((l1 = 3 → m_gR M l0 13 2 fun x11 => m_rc M x11 4 fun b14 => wJx4a65c_size_8abf5 (fun x12 M13 => κ x12 M13) (some b14) M) ∧ (¬ l1 = 3 → ((l1 = 4 → m_rc M l0 13 fun b18 => wX8_awakeOnes (fun x16 M17 => κ x16 M17) (some b18) M) ∧ (¬ l1 = 4 → ((l1 = 5 → m_gR M l0 13 3 fun x20 => m_rc M x20 4 fun b23 => wJx4a65c_size_8abf5 (fun x21 M22 => κ x21 M22) (some b23) M) ∧ (¬ l1 = 5 → ((l1 = 6 → m_rc M l0 13 fun b27 => wX8_partsOfFate (fun x25 M26 => κ x25 M26) (some b27) 1 M) ∧ (¬ l1 = 6 → ((l1 = 7 → m_rc M l0 13 fun b31 => wX8_partsOfFate (fun x29 M30 => κ x29 M30) (some b31) 2 M) ∧ (¬ l1 = 7 → ((l1 = 8 → m_rc M l0 13 fun b35 => wX8_partsOfFate (fun x33 M34 => κ x33 M34) (some b35) 3 M) ∧ (¬ l1 = 8 → ((l1 = 9 → m_rc M l0 13 fun b39 => wX8_partsOfFate (fun x37 M38 => κ x37 M38) (some b39) 4 M) ∧ (¬ l1 = 9 → ((l1 = 10 → m_rc M l0 13 fun b43 => wX8_partsOfFate (fun x41 M42 => κ x41 M42) (some b43) 5 M) ∧ (¬ l1 = 10 → ((l1 = 11 → m_rc M l0 13 fun b47 => wX8_goneParts (fun x45 M46 => κ x45 M46) (some b47) M) ∧ (¬ l1 = 11 → ((l1 = 12 → m_gR M l0 13 4 fun x49 => m_rc M x49 4 fun b52 => wJx4a65c_size_8abf5 (fun x50 M51 => κ x50 M51) (some b52) M) ∧ (¬ l1 = 12 → ((l1 = 13 → m_gR M l0 13 5 fun x54 => m_gI M x54 10 0 fun x55 => κ x55 M) ∧ (¬ l1 = 13 → ((l1 = 14 → m_gI M l0 13 10 fun x57 => κ x57 M) ∧ (¬ l1 = 14 → ((l1 = 15 → m_rc M l0 13 fun b61 => wX8_dutiesOfAll (fun x59 M60 => κ x59 M60) (some b61) M) ∧ (¬ l1 = 15 → ((l1 = 16 → m_rc M l0 13 fun b65 => wX8_finesOfAll (fun x63 M64 => κ x63 M64) (some b65) M) ∧ (¬ l1 = 16 → ξ "java/lang/IllegalArgumentException" M))))))))))))))))))))))))))))))))))
def wX8_cross_25 (κ : mM → Prop) (l0 : Option Nat) (l2 : Int32) (l3 : Int32) (s0 : Int32) (M : mM) : Prop :=
    ((s0 = 0 → κ M) ∧ (¬ (s0 = 0) → m_gR M l0 13 7 fun x2 => m_ldI M x2 l2 0 fun x3 => ((x3 = (-1) → m_gR M l0 13 7 fun x5 => m_stI M x5 l2 (l3 + 1) fun M6 => κ M6) ∧ (¬ (x3 = (-1)) → κ M))))
def wX8_cross_24 (κ : mM → Prop) (l0 : Option Nat) (l2 : Int32) (l3 : Int32) (M : mM) : Prop :=
    wX8_cross_25 κ l0 l2 l3 0 M
def wX8_cross (κ : mM → Prop) (l0 : Option Nat) (l1 : Int32) (l2 : Int32) (l3 : Int32) (M : mM) : Prop :=
    m_gR M l0 13 7 fun x1 => m_ldI M x1 l1 0 fun x2 => ((x2 = (-1) → wX8_cross_24 κ l0 l2 l3 M) ∧ (¬ (x2 = (-1)) → m_gR M l0 13 7 fun x4 => m_ldI M x4 l1 0 fun x5 => ((l3 < x5 → wX8_cross_24 κ l0 l2 l3 M) ∧ (¬ (l3 < x5) → wX8_cross_25 κ l0 l2 l3 1 M))))
def wX8_findArrivals_126 (κ : mM → Prop) (R35 : Option Nat → Int32 → mM → Prop) (R43 : Option Nat → Int32 → Int32 → mM → Prop) (l0 : Option Nat) (l2 : Int32) (l3 : Int32) (M : mM) : Prop :=
    R43 l0 l2 (l3 + 1) M
def wX8_findArrivals_43 (κ : mM → Prop) (R35 : Option Nat → Int32 → mM → Prop) : Nat → Option Nat → Int32 → Int32 → mM → Prop
  | 0 => fun _ _ _ _ => False
  | f + 1 => fun (l0 : Option Nat) (l2 : Int32) (l3 : Int32) (M : mM) =>
    m_gR M l0 13 1 fun x1 => m_rc M x1 4 fun b4 => wJx4a65c_size_8abf5 (fun x2 M3 => ((x2 ≤ l3 → R35 l0 (l2 + 1) M3) ∧ (¬ (x2 ≤ l3) → m_gR M3 l0 13 1 fun x6 => m_rc M3 x6 4 fun b9 => wJx4a65c_get_915e3 (fun x7 M8 => m_cast M8 x7 5 (m_gI M8 l0 13 9 fun x10 => m_rc M8 x7 5 fun b13 => wX0_isOpenAt (fun x11 M12 => ((x11 = 0 → wX8_findArrivals_126 κ R35 (wX8_findArrivals_43 κ R35 f) l0 l2 l3 M12) ∧ (¬ (x11 = 0) → m_gR M12 x7 5 1 fun x15 => m_gI M12 x15 7 0 fun x16 => m_gR M12 x7 5 2 fun x17 => m_gI M12 x17 7 0 fun x18 => m_rc M12 l0 13 fun b20 => wX8_cross (fun M19 => m_gR M19 x7 5 2 fun x21 => m_gI M19 x21 7 0 fun x22 => m_gR M19 x7 5 1 fun x23 => m_gI M19 x23 7 0 fun x24 => m_rc M19 l0 13 fun b26 => wX8_cross (fun M25 => wX8_findArrivals_126 κ R35 (wX8_findArrivals_43 κ R35 f) l0 l2 l3 M25) (some b26) x22 x24 l2 M19) (some b20) x16 x18 l2 M12))) (some b13) (m_rem (x10 + l2) 24) M8)) (some b9) l3 M3))) (some b4) M
def wX8_findArrivals_35 (κ : mM → Prop) : Nat → Option Nat → Int32 → mM → Prop
  | 0 => fun _ _ _ => False
  | f + 1 => fun (l0 : Option Nat) (l2 : Int32) (M : mM) =>
    ((72 ≤ l2 → κ M) ∧ (¬ (72 ≤ l2) → ∃ u : Nat, wX8_findArrivals_43 κ (wX8_findArrivals_35 κ f) u l0 l2 0 M))
def wX8_findArrivals_26 (κ : mM → Prop) (R2 : Option Nat → Option Nat → Int32 → mM → Prop) (l0 : Option Nat) (l1 : Option Nat) (l2 : Int32) (s0 : Int32) (s1 : Int32) (s2 : Option Nat) (M : mM) : Prop :=
    m_stI M s2 s1 s0 fun M1 => R2 l0 l1 (l2 + 1) M1
def wX8_findArrivals_2 (κ : mM → Prop) : Nat → Option Nat → Option Nat → Int32 → mM → Prop
  | 0 => fun _ _ _ _ => False
  | f + 1 => fun (l0 : Option Nat) (l1 : Option Nat) (l2 : Int32) (M : mM) =>
    ((6 ≤ l2 → ∃ u : Nat, wX8_findArrivals_35 κ u l0 0 M) ∧ (¬ (6 ≤ l2) → m_gR M l0 13 7 fun x2 => m_gI M l1 7 0 fun x3 => ((l2 = x3 → wX8_findArrivals_26 κ (wX8_findArrivals_2 κ f) l0 l1 l2 0 l2 x2 M) ∧ (¬ (l2 = x3) → wX8_findArrivals_26 κ (wX8_findArrivals_2 κ f) l0 l1 l2 (-1) l2 x2 M))))
def wX8_findArrivals (κ : mM → Prop) (l0 : Option Nat) (l1 : Option Nat) (M : mM) : Prop :=
    ∃ u : Nat, wX8_findArrivals_2 κ u l0 l1 0 M
def wX8_way (κ : Int32 → mM → Prop) (ξ : String → mM → Prop) (l0 : Option Nat) (l1 : Int32) (l2 : Int32) (M : mM) : Prop :=
    m_rc M l0 13 fun b3 => wX8_landNumbered (fun x1 M2 => m_rc M2 l0 13 fun b6 => wX8_landNumbered (fun x4 M5 => m_rc M5 l0 13 fun b8 => wX8_findArrivals (fun M7 => m_gR M7 l0 13 7 fun x9 => m_gI M7 x4 7 0 fun x10 => m_ldI M7 x9 x10 0 fun x11 => κ x11 M7) (some b8) x1 M5) ξ (some b6) l2 M2) ξ (some b3) l1 M
def wX8_catchOf (κ : Int32 → mM → Prop) (l0 : Int32) (l1 : Int32) (M : mM) : Prop :=
    κ ((l0 * l1) / 10) M
def wX8_mostCaughtFrom_35 (κ : Int32 → mM → Prop) : Nat → Int32 → Int32 → Option Nat → Int32 → Int32 → Int32 → mM → Prop
  | 0 => fun _ _ _ _ _ _ _ => False
  | f + 1 => fun (l2 : Int32) (l3 : Int32) (l4 : Option Nat) (l5 : Int32) (l6 : Int32) (l7 : Int32) (M : mM) =>
    ((l6 < l7 → κ l5 M) ∧ (¬ (l6 < l7) → m_ldI M l4 (l3 - l7) 0 fun x2 => wX8_catchOf (fun x3 M4 => (wX8_mostCaughtFrom_35 κ f) l2 l3 l4 (m_max l5 (x2 + x3)) l6 (l7 + 1) M4) l2 l7 M))
def wX8_mostCaughtFrom_30 (κ : Int32 → mM → Prop) (l2 : Int32) (l3 : Int32) (l4 : Option Nat) (l5 : Int32) (s0 : Int32) (M : mM) : Prop :=
    ∃ u : Nat, wX8_mostCaughtFrom_35 κ u l2 l3 l4 l5 s0 1 M
def wX8_mostCaughtFrom (κ : Int32 → mM → Prop) (l0 : Option Nat) (l1 : Int32) (l2 : Int32) (l3 : Int32) (M : mM) : Prop :=
    m_gR M l0 13 6 fun x1 => m_ldR M x1 (l1 + 1) 5 fun x2 => m_ldI M x2 l3 0 fun x3 => ((l2 = 0 → wX8_mostCaughtFrom_30 κ l2 l3 x2 x3 0 M) ∧ (¬ (l2 = 0) → wX8_mostCaughtFrom_30 κ l2 l3 x2 x3 (m_min l3 10) M))
def wX8_findMostCaught_63 (κ : mM → Prop) (R40 : Option Nat → Int32 → mM → Prop) : Nat → Option Nat → Int32 → Int32 → Int32 → mM → Prop
  | 0 => fun _ _ _ _ _ => False
  | f + 1 => fun (l0 : Option Nat) (l2 : Int32) (l3 : Int32) (l4 : Int32) (M : mM) =>
    m_gR M l0 13 6 fun x1 => m_ldR M x1 l2 5 fun x2 => m_len M x2 fun x3 => ((x3 ≤ l4 → R40 l0 (l2 + (-1)) M) ∧ (¬ (x3 ≤ l4) → m_gR M l0 13 6 fun x5 => m_ldR M x5 l2 5 fun x6 => m_rc M l0 13 fun b9 => wX8_mostCaughtFrom (fun x7 M8 => m_stI M8 x6 l4 x7 fun M10 => (wX8_findMostCaught_63 κ R40 f) l0 l2 l3 (l4 + 1) M10) (some b9) l2 l3 l4 M))
def wX8_findMostCaught_40 (κ : mM → Prop) : Nat → Option Nat → Int32 → mM → Prop
  | 0 => fun _ _ _ => False
  | f + 1 => fun (l0 : Option Nat) (l2 : Int32) (M : mM) =>
    ((l2 < 0 → κ M) ∧ (¬ (l2 < 0) → m_gR M l0 13 1 fun x2 => m_rc M x2 4 fun b5 => wJx4a65c_get_915e3 (fun x3 M4 => m_cast M4 x3 5 (m_rc M4 l0 13 fun b8 => wX8_hiddenWorth (fun x6 M7 => ∃ u : Nat, wX8_findMostCaught_63 κ (wX8_findMostCaught_40 κ f) u l0 l2 x6 0 M7) (some b8) x3 M4)) (some b5) l2 M))
def wX8_findMostCaught_10 (κ : mM → Prop) : Nat → Option Nat → Int32 → Int32 → mM → Prop
  | 0 => fun _ _ _ _ => False
  | f + 1 => fun (l0 : Option Nat) (l1 : Int32) (l2 : Int32) (M : mM) =>
    m_gR M l0 13 6 fun x1 => m_ldR M x1 l1 5 fun x2 => m_len M x2 fun x3 => ((x3 ≤ l2 → ∃ u : Nat, wX8_findMostCaught_40 κ u l0 (l1 - 1) M) ∧ (¬ (x3 ≤ l2) → m_gR M l0 13 6 fun x5 => m_ldR M x5 l1 5 fun x6 => m_stI M x6 l2 0 fun M7 => (wX8_findMostCaught_10 κ f) l0 l1 (l2 + 1) M7))
def wX8_findMostCaught (κ : mM → Prop) (l0 : Option Nat) (M : mM) : Prop :=
    m_gR M l0 13 1 fun x1 => m_rc M x1 4 fun b4 => wJx4a65c_size_8abf5 (fun x2 M3 => ∃ u : Nat, wX8_findMostCaught_10 κ u l0 x2 0 M3) (some b4) M
def wX8_leastSum_9 (κ : Int32 → mM → Prop) : Nat → Int32 → Option Nat → Int32 → mM → Prop
  | 0 => fun _ _ _ _ => False
  | f + 1 => fun (l1 : Int32) (l2 : Option Nat) (l3 : Int32) (M : mM) =>
    m_len M l2 fun x1 => ((x1 ≤ l3 → κ (-1) M) ∧ (¬ (x1 ≤ l3) → m_ldI M l2 l3 0 fun x3 => ((x3 < l1 → (wX8_leastSum_9 κ f) l1 l2 (l3 + 1) M) ∧ (¬ (x3 < l1) → κ l3 M))))
def wX8_leastSum (κ : Int32 → mM → Prop) (l0 : Option Nat) (l1 : Int32) (M : mM) : Prop :=
    m_gR M l0 13 6 fun x1 => m_ldR M x1 0 5 fun x2 => ∃ u : Nat, wX8_leastSum_9 κ u l1 x2 0 M
def wX8_leastOdds_12 (κ : Int32 → mM → Prop) : Nat → Option Nat → Int32 → Int32 → Int32 → Int32 → Int32 → Int32 → mM → Prop
  | 0 => fun _ _ _ _ _ _ _ _ => False
  | f + 1 => fun (l0 : Option Nat) (l1 : Int32) (l2 : Int32) (l3 : Int32) (l4 : Int32) (l5 : Int32) (l6 : Int32) (M : mM) =>
    ((l5 ≤ l6 → κ l5 M) ∧ (¬ (l5 ≤ l6) → wX8_catchOf (fun x2 M3 => m_gR M3 l0 13 6 fun x4 => m_ldR M3 x4 (l1 + 1) 5 fun x5 => m_ldI M3 x5 (l4 - l6) 0 fun x6 => (((x2 + x6) < l3 → (wX8_leastOdds_12 κ f) l0 l1 l2 l3 l4 l5 (l6 + 1) M3) ∧ (¬ ((x2 + x6) < l3) → κ l6 M3))) l2 l6 M))
def wX8_leastOdds (κ : Int32 → mM → Prop) (l0 : Option Nat) (l1 : Int32) (l2 : Int32) (l3 : Int32) (l4 : Int32) (M : mM) : Prop :=
    ∃ u : Nat, wX8_leastOdds_12 κ u l0 l1 l2 l3 l4 (m_min l4 10) 0 M
def wX8_plannedOdds_12 (κ : Int32 → mM → Prop) : Nat → Option Nat → Int32 → Int32 → Int32 → Int32 → Int32 → mM → Prop
  | 0 => fun _ _ _ _ _ _ _ => False
  | f + 1 => fun (l0 : Option Nat) (l3 : Int32) (l4 : Int32) (l5 : Int32) (l6 : Int32) (l7 : Int32) (M : mM) =>
    ((l3 < l7 → κ l6 M) ∧ (¬ (l3 < l7) → m_gR M l0 13 1 fun x2 => m_rc M x2 4 fun b5 => wJx4a65c_get_915e3 (fun x3 M4 => m_cast M4 x3 5 (m_rc M4 l0 13 fun b8 => wX8_hiddenWorth (fun x6 M7 => m_rc M7 l0 13 fun b11 => wX8_leastOdds (fun x9 M10 => wX8_catchOf (fun x12 M13 => (wX8_plannedOdds_12 κ f) l0 l3 (l4 - x12) (l5 - x9) x9 (l7 + 1) M13) x6 x9 M10) (some b11) l7 x6 l4 l5 M7) (some b8) x3 M4)) (some b5) l7 M))
def wX8_plannedOdds (κ : Int32 → mM → Prop) (l0 : Option Nat) (l1 : Int32) (l2 : Int32) (l3 : Int32) (M : mM) : Prop :=
    ∃ u : Nat, wX8_plannedOdds_12 κ u l0 l3 l1 l2 0 0 M
def wX8_plan_11 (κ : Int32 → mM → Prop) (ξ : String → mM → Prop) (l0 : Option Nat) (l1 : Int32) (l2 : Int32) (M : mM) : Prop :=
    wX8_demandRange (fun M1 => m_rc M1 l0 13 fun b3 => wX8_findMostCaught (fun M2 => m_rc M2 l0 13 fun b6 => wX8_leastSum (fun x4 M5 => ((x4 = (-1) → κ x4 M5) ∧ (¬ (x4 = (-1)) → ((l2 = (-1) → κ x4 M5) ∧ (¬ (l2 = (-1)) → m_rc M5 l0 13 fun b11 => wX8_plannedOdds (fun x9 M10 => κ x9 M10) (some b11) l1 x4 l2 M5))))) (some b6) l1 M2) (some b3) M1) ξ l1 0 2000 M
def wX8_plan (κ : Int32 → mM → Prop) (ξ : String → mM → Prop) (l0 : Option Nat) (l1 : Int32) (l2 : Int32) (M : mM) : Prop :=
    ((l2 = (-1) → wX8_plan_11 κ ξ l0 l1 l2 M) ∧ (¬ (l2 = (-1)) → m_rc M l0 13 fun b4 => wX8_gateNumbered (fun x2 M3 => wX8_plan_11 κ ξ l0 l1 l2 M3) ξ (some b4) l2 M))
def wX8_wouldPay (κ : Int32 → mM → Prop) (ξ : String → mM → Prop) (l0 : Option Nat) (l1 : Int32) (M : mM) : Prop :=
    m_rc M l0 13 fun b3 => wX8_gateNumbered (fun x1 M2 => m_gR M2 x1 5 5 fun x4 => m_rc M2 x4 4 fun b7 => wJx4a65c_isEmpty_aae02 (fun x5 M6 => ((x5 = 0 → m_gR M6 x1 5 5 fun x9 => m_rc M6 x9 4 fun b12 => wJx4a65c_get_915e3 (fun x10 M11 => m_cast M11 x10 11 (m_rc M11 l0 13 fun b15 => wX8_passIsGood (fun x13 M14 => ((x13 = 0 → κ 0 M14) ∧ (¬ (x13 = 0) → m_gR M14 x10 11 2 fun x17 => m_rc M14 x1 5 fun b20 => wX0_across (fun x18 M19 => m_rc M19 l0 13 fun b23 => wX8_partsThatComeIn (fun x21 M22 => m_rc M22 l0 13 fun b26 => wX8_worthOf (fun x24 M25 => m_rc M25 x18 7 fun b29 => wX2_dutyOn (fun x27 M28 => κ x27 M28) (some b29) x24 M25) (some b26) x21 M22) (some b23) x10 x18 M19) (some b20) x17 M14))) (some b15) x10 x1 M11)) (some b12) 0 M6) ∧ (¬ (x5 = 0) → κ 0 M6))) (some b7) M2) ξ (some b3) l1 M
def wX8_quotasOfAll_13 (κ : Int32 → mM → Prop) : Nat → Int32 → Option Nat → Int32 → Int32 → mM → Prop
  | 0 => fun _ _ _ _ _ => False
  | f + 1 => fun (l1 : Int32) (l2 : Option Nat) (l3 : Int32) (l4 : Int32) (M : mM) =>
    ((l3 ≤ l4 → κ l1 M) ∧ (¬ (l3 ≤ l4) → m_ldR M l2 l4 3 fun x2 => m_gI M x2 7 3 fun x3 => (wX8_quotasOfAll_13 κ f) (l1 + x3) l2 l3 (l4 + 1) M))
def wX8_quotasOfAll (κ : Int32 → mM → Prop) (l0 : Option Nat) (M : mM) : Prop :=
    m_gR M l0 13 0 fun x1 => m_len M x1 fun x2 => ∃ u : Nat, wX8_quotasOfAll_13 κ u 0 x1 x2 0 M
def wX8_sleeperIsSound_85 (κ : Int32 → mM → Prop) (l0 : Option Nat) (l1 : Option Nat) (s0 : Int32) (s1 : Int32) (M : mM) : Prop :=
    ((s1 = s0 → m_gI M l1 11 3 fun x2 => ((x2 < 0 → κ 0 M) ∧ (¬ (x2 < 0) → m_gI M l1 11 3 fun x4 => ((x4 ≤ 9 → m_gI M l1 11 4 fun x6 => ((x6 = 2 → m_rc M l0 13 fun b10 => wX8_headOf (fun x8 M9 => ((x8 = 0 → κ 1 M9) ∧ (¬ (x8 = 0) → κ 0 M9))) (some b10) l1 M) ∧ (¬ (x6 = 2) → κ 1 M))) ∧ (¬ (x4 ≤ 9) → κ 0 M))))) ∧ (¬ (s1 = s0) → κ 0 M))
def wX8_sleeperIsSound_60 (κ : Int32 → mM → Prop) (R4 : Option Nat → Option Nat → Int32 → Int32 → mM → Prop) (l0 : Option Nat) (l1 : Option Nat) (l2 : Int32) (l3 : Int32) (l4 : Int32) (M : mM) : Prop :=
    R4 l0 l1 (l2 + l4) (l3 + 1) M
def wX8_sleeperIsSound_4 (κ : Int32 → mM → Prop) : Nat → Option Nat → Option Nat → Int32 → Int32 → mM → Prop
  | 0 => fun _ _ _ _ _ => False
  | f + 1 => fun (l0 : Option Nat) (l1 : Option Nat) (l2 : Int32) (l3 : Int32) (M : mM) =>
    m_gR M l0 13 1 fun x1 => m_rc M x1 4 fun b4 => wJx4a65c_size_8abf5 (fun x2 M3 => ((x2 ≤ l3 → m_gI M3 l1 11 4 fun x6 => ((x6 = 1 → wX8_sleeperIsSound_85 κ l0 l1 1 l2 M3) ∧ (¬ (x6 = 1) → wX8_sleeperIsSound_85 κ l0 l1 0 l2 M3))) ∧ (¬ (x2 ≤ l3) → m_gR M3 l0 13 1 fun x8 => m_rc M3 x8 4 fun b11 => wJx4a65c_get_915e3 (fun x9 M10 => m_cast M10 x9 5 (m_rc M10 x9 5 fun b14 => wX0_timesInLine (fun x12 M13 => ((x12 ≤ 0 → wX8_sleeperIsSound_60 κ (wX8_sleeperIsSound_4 κ f) l0 l1 l2 l3 x12 M13) ∧ (¬ (x12 ≤ 0) → m_gR M13 l0 13 1 fun x16 => m_rc M13 x16 4 fun b19 => wJx4a65c_get_915e3 (fun x17 M18 => m_cast M18 x17 5 (m_gR M18 l1 11 2 fun x20 => m_rc M18 x17 5 fun b23 => wX0_isAt (fun x21 M22 => ((x21 = 0 → κ 0 M22) ∧ (¬ (x21 = 0) → wX8_sleeperIsSound_60 κ (wX8_sleeperIsSound_4 κ f) l0 l1 l2 l3 x12 M22))) (some b23) x20 M18)) (some b19) l3 M13))) (some b14) l1 M10)) (some b11) l3 M3))) (some b4) M
def wX8_sleeperIsSound (κ : Int32 → mM → Prop) (l0 : Option Nat) (l1 : Option Nat) (M : mM) : Prop :=
    ∃ u : Nat, wX8_sleeperIsSound_4 κ u l0 l1 0 0 M
def wX8_isSound_64 (κ : Int32 → mM → Prop) : Nat → Option Nat → Int32 → mM → Prop
  | 0 => fun _ _ _ => False
  | f + 1 => fun (l0 : Option Nat) (l1 : Int32) (M : mM) =>
    m_gR M l0 13 1 fun x1 => m_rc M x1 4 fun b4 => wJx4a65c_size_8abf5 (fun x2 M3 => ((x2 ≤ l1 → κ 1 M3) ∧ (¬ (x2 ≤ l1) → m_gR M3 l0 13 1 fun x6 => m_rc M3 x6 4 fun b9 => wJx4a65c_get_915e3 (fun x7 M8 => m_cast M8 x7 5 (m_rc M8 x7 5 fun b12 => wX0_babiesAreAhead (fun x10 M11 => ((x10 = 0 → κ 0 M11) ∧ (¬ (x10 = 0) → (wX8_isSound_64 κ f) l0 (l1 + 1) M11))) (some b12) M8)) (some b9) l1 M3))) (some b4) M
def wX8_isSound_25 (κ : Int32 → mM → Prop) : Nat → Option Nat → Int32 → mM → Prop
  | 0 => fun _ _ _ => False
  | f + 1 => fun (l0 : Option Nat) (l1 : Int32) (M : mM) =>
    m_gR M l0 13 2 fun x1 => m_rc M x1 4 fun b4 => wJx4a65c_size_8abf5 (fun x2 M3 => ((x2 ≤ l1 → ∃ u : Nat, wX8_isSound_64 κ u l0 0 M3) ∧ (¬ (x2 ≤ l1) → m_gR M3 l0 13 2 fun x6 => m_rc M3 x6 4 fun b9 => wJx4a65c_get_915e3 (fun x7 M8 => m_cast M8 x7 11 (m_rc M8 l0 13 fun b12 => wX8_sleeperIsSound (fun x10 M11 => ((x10 = 0 → κ 0 M11) ∧ (¬ (x10 = 0) → (wX8_isSound_25 κ f) l0 (l1 + 1) M11))) (some b12) x7 M8)) (some b9) l1 M3))) (some b4) M
def wX8_isSound (κ : Int32 → mM → Prop) (l0 : Option Nat) (M : mM) : Prop :=
    m_rc M l0 13 fun b3 => wX8_quotasOfAll (fun x1 M2 => ((x1 = 30 → m_gR M2 l0 13 4 fun x5 => m_rc M2 x5 4 fun b8 => wJx4a65c_size_8abf5 (fun x6 M7 => ((x6 ≤ 40 → ∃ u : Nat, wX8_isSound_25 κ u l0 0 M7) ∧ (¬ (x6 ≤ 40) → κ 0 M7))) (some b8) M2) ∧ (¬ (x1 = 30) → κ 0 M2))) (some b3) M
def wX8_digest_240 (κ : Int64 → mM → Prop) : Nat → Option Nat → Int64 → Int32 → mM → Prop
  | 0 => fun _ _ _ _ => False
  | f + 1 => fun (l0 : Option Nat) (l1 : Int64) (l3 : Int32) (M : mM) =>
    ((6 ≤ l3 → m_rc M l0 13 fun b4 => wX8_plan (fun x2 M3 => m_rc M3 l0 13 fun b7 => wX8_isSound (fun x5 M6 => ((x5 = 0 → κ ((((l1 * 31) + (Int32.toInt64 x2)) * 31) + (Int32.toInt64 0)) M6) ∧ (¬ (x5 = 0) → κ ((((l1 * 31) + (Int32.toInt64 x2)) * 31) + (Int32.toInt64 1)) M6))) (some b7) M3) (fun _ _ => False) (some b4) 20 (-1) M) ∧ (¬ (6 ≤ l3) → m_rc M l0 13 fun b11 => wX8_way (fun x9 M10 => (wX8_digest_240 κ f) l0 ((l1 * 31) + (Int32.toInt64 x9)) (l3 + 1) M10) (fun _ _ => False) (some b11) 0 l3 M))
def wX8_digest_205 (κ : Int64 → mM → Prop) (R191 : Option Nat → Int64 → Int32 → mM → Prop) : Nat → Option Nat → Int64 → Int32 → Int32 → mM → Prop
  | 0 => fun _ _ _ _ _ => False
  | f + 1 => fun (l0 : Option Nat) (l1 : Int64) (l3 : Int32) (l4 : Int32) (M : mM) =>
    ((5 < l4 → R191 l0 l1 (l3 + 1) M) ∧ (¬ (5 < l4) → m_rc M l0 13 fun b4 => wX8_ofPart (fun x2 M3 => (wX8_digest_205 κ R191 f) l0 ((l1 * 31) + (Int32.toInt64 x2)) l3 (l4 + 1) M3) (fun _ _ => False) (some b4) l3 l4 M))
def wX8_digest_191 (κ : Int64 → mM → Prop) : Nat → Option Nat → Int64 → Int32 → mM → Prop
  | 0 => fun _ _ _ _ => False
  | f + 1 => fun (l0 : Option Nat) (l1 : Int64) (l3 : Int32) (M : mM) =>
    m_gR M l0 13 3 fun x1 => m_rc M x1 4 fun b4 => wJx4a65c_size_8abf5 (fun x2 M3 => ((x2 ≤ l3 → ∃ u : Nat, wX8_digest_240 κ u l0 l1 0 M3) ∧ (¬ (x2 ≤ l3) → ∃ u : Nat, wX8_digest_205 κ (wX8_digest_191 κ f) u l0 l1 l3 3 M3))) (some b4) M
def wX8_digest_155 (κ : Int64 → mM → Prop) (R141 : Option Nat → Int64 → Int32 → mM → Prop) : Nat → Option Nat → Int64 → Int32 → Int32 → mM → Prop
  | 0 => fun _ _ _ _ _ => False
  | f + 1 => fun (l0 : Option Nat) (l1 : Int64) (l3 : Int32) (l4 : Int32) (M : mM) =>
    ((8 < l4 → R141 l0 l1 (l3 + 1) M) ∧ (¬ (8 < l4) → m_rc M l0 13 fun b4 => wX8_ofSleeper (fun x2 M3 => (wX8_digest_155 κ R141 f) l0 ((l1 * 31) + (Int32.toInt64 x2)) l3 (l4 + 1) M3) (fun _ _ => False) (some b4) l3 l4 M))
def wX8_digest_141 (κ : Int64 → mM → Prop) : Nat → Option Nat → Int64 → Int32 → mM → Prop
  | 0 => fun _ _ _ _ => False
  | f + 1 => fun (l0 : Option Nat) (l1 : Int64) (l3 : Int32) (M : mM) =>
    m_gR M l0 13 2 fun x1 => m_rc M x1 4 fun b4 => wJx4a65c_size_8abf5 (fun x2 M3 => ((x2 ≤ l3 → ∃ u : Nat, wX8_digest_191 κ u l0 l1 0 M3) ∧ (¬ (x2 ≤ l3) → ∃ u : Nat, wX8_digest_155 κ (wX8_digest_141 κ f) u l0 l1 l3 0 M3))) (some b4) M
def wX8_digest_92 (κ : Int64 → mM → Prop) (R78 : Option Nat → Int64 → Int32 → mM → Prop) : Nat → Option Nat → Int64 → Int32 → Int32 → mM → Prop
  | 0 => fun _ _ _ _ _ => False
  | f + 1 => fun (l0 : Option Nat) (l1 : Int64) (l3 : Int32) (l4 : Int32) (M : mM) =>
    ((9 < l4 → m_rc M l0 13 fun b4 => wX8_wouldPay (fun x2 M3 => R78 l0 ((l1 * 31) + (Int32.toInt64 x2)) (l3 + 1) M3) (fun _ _ => False) (some b4) l3 M) ∧ (¬ (9 < l4) → m_rc M l0 13 fun b7 => wX8_ofGate (fun x5 M6 => (wX8_digest_92 κ R78 f) l0 ((l1 * 31) + (Int32.toInt64 x5)) l3 (l4 + 1) M6) (fun _ _ => False) (some b7) l3 l4 M))
def wX8_digest_78 (κ : Int64 → mM → Prop) : Nat → Option Nat → Int64 → Int32 → mM → Prop
  | 0 => fun _ _ _ _ => False
  | f + 1 => fun (l0 : Option Nat) (l1 : Int64) (l3 : Int32) (M : mM) =>
    m_gR M l0 13 1 fun x1 => m_rc M x1 4 fun b4 => wJx4a65c_size_8abf5 (fun x2 M3 => ((x2 ≤ l3 → ∃ u : Nat, wX8_digest_141 κ u l0 l1 0 M3) ∧ (¬ (x2 ≤ l3) → ∃ u : Nat, wX8_digest_92 κ (wX8_digest_78 κ f) u l0 l1 l3 2 M3))) (some b4) M
def wX8_digest_42 (κ : Int64 → mM → Prop) (R33 : Option Nat → Int64 → Int32 → mM → Prop) : Nat → Option Nat → Int64 → Int32 → Int32 → mM → Prop
  | 0 => fun _ _ _ _ _ => False
  | f + 1 => fun (l0 : Option Nat) (l1 : Int64) (l3 : Int32) (l4 : Int32) (M : mM) =>
    ((8 < l4 → R33 l0 l1 (l3 + 1) M) ∧ (¬ (8 < l4) → m_rc M l0 13 fun b4 => wX8_ofLand (fun x2 M3 => (wX8_digest_42 κ R33 f) l0 ((l1 * 31) + (Int32.toInt64 x2)) l3 (l4 + 1) M3) (fun _ _ => False) (some b4) l3 l4 M))
def wX8_digest_33 (κ : Int64 → mM → Prop) : Nat → Option Nat → Int64 → Int32 → mM → Prop
  | 0 => fun _ _ _ _ => False
  | f + 1 => fun (l0 : Option Nat) (l1 : Int64) (l3 : Int32) (M : mM) =>
    ((6 ≤ l3 → ∃ u : Nat, wX8_digest_78 κ u l0 l1 0 M) ∧ (¬ (6 ≤ l3) → ∃ u : Nat, wX8_digest_42 κ (wX8_digest_33 κ f) u l0 l1 l3 0 M))
def wX8_digest_6 (κ : Int64 → mM → Prop) : Nat → Option Nat → Int64 → Int32 → mM → Prop
  | 0 => fun _ _ _ _ => False
  | f + 1 => fun (l0 : Option Nat) (l1 : Int64) (l3 : Int32) (M : mM) =>
    ((16 < l3 → ∃ u : Nat, wX8_digest_33 κ u l0 l1 0 M) ∧ (¬ (16 < l3) → m_rc M l0 13 fun b4 => wX8_night (fun x2 M3 => (wX8_digest_6 κ f) l0 ((l1 * 31) + (Int32.toInt64 x2)) (l3 + 1) M3) (fun _ _ => False) (some b4) l3 M))
def wX8_digest (κ : Int64 → mM → Prop) (l0 : Option Nat) (M : mM) : Prop :=
    ∃ u : Nat, wX8_digest_6 κ u l0 6007 0 M
def wX8_init_90 (g : Nat → Nat) (κ : mM → Prop) : Nat → Nat → Nat → Option Nat → Int32 → mM → Prop
  | 0 => fun _ _ _ _ _ => False
  | f + 1 => fun (k9 n9 : Nat) (l0 : Option Nat) (l1 : Int32) (M : mM) =>
    ((k9 ≤ 26 ∧ n9 ≤ 900) ∧ ((6 ≤ l1 → ((k9 ≤ 26 ∧ n9 ≤ 900) ∧ κ M)) ∧ (¬ (6 ≤ l1) → m_gR M l0 13 0 fun x2 => ((k9 + 1 ≤ 26 ∧ n9 + 7 ≤ 900) ∧ m_new M 7 [.int 0, .int 0, .int 0, .int 0, .int 0, .int 0, .int 0] fun q3 M4 => m_rc M4 (some q3) 7 fun b6 => wX2_init (fun M5 => m_stR M5 x2 l1 (some q3) 3 fun M7 => (wX8_init_90 g κ f) (k9 + 1) (n9 + 7) l0 (l1 + 1) M7) (some b6) l1 M4))))
def wX8_init (g : Nat → Nat) (κ : mM → Prop) (l0 : Option Nat) (M : mM) : Prop :=
    ∃ b9 : Nat, l0 = some b9 ∧ ((0 + 1 ≤ 26 ∧ 0 + 6 ≤ 900) ∧ m_newR M 3 6 6 fun q1 M2 => m_p M2 l0 13 0 (va_rf (some q1)) fun M3 => (((0 + 1) + 1 ≤ 26 ∧ (0 + 6) + 3 ≤ 900) ∧ m_new M3 4 [.int 0, .null, .int 0] fun q4 M5 => m_rc M5 (some q4) 4 fun b7 => wJx4a65c_init_da8c8 g (fun M6 => m_p M6 l0 13 1 (va_rf (some q4)) fun M8 => ((((0 + 1) + 1) + 1 ≤ 26 ∧ ((0 + 6) + 3) + 3 ≤ 900) ∧ m_new M8 4 [.int 0, .null, .int 0] fun q9 M10 => m_rc M10 (some q9) 4 fun b12 => wJx4a65c_init_da8c8 g (fun M11 => m_p M11 l0 13 2 (va_rf (some q9)) fun M13 => (((((0 + 1) + 1) + 1) + 1 ≤ 26 ∧ (((0 + 6) + 3) + 3) + 3 ≤ 900) ∧ m_new M13 4 [.int 0, .null, .int 0] fun q14 M15 => m_rc M15 (some q14) 4 fun b17 => wJx4a65c_init_da8c8 g (fun M16 => m_p M16 l0 13 3 (va_rf (some q14)) fun M18 => ((((((0 + 1) + 1) + 1) + 1) + 1 ≤ 26 ∧ ((((0 + 6) + 3) + 3) + 3) + 3 ≤ 900) ∧ m_new M18 4 [.int 0, .null, .int 0] fun q19 M20 => m_rc M20 (some q19) 4 fun b22 => wJx4a65c_init_da8c8 g (fun M21 => m_p M21 l0 13 4 (va_rf (some q19)) fun M23 => (((((((0 + 1) + 1) + 1) + 1) + 1) + 1 ≤ 26 ∧ (((((0 + 6) + 3) + 3) + 3) + 3) + 2 ≤ 900) ∧ m_new M23 10 [.int 0, .int 0] fun q24 M25 => m_rc M25 (some q24) 10 fun b27 => wX5_init (fun M26 => m_p M26 l0 13 5 (va_rf (some q24)) fun M28 => ((((((((0 + 1) + 1) + 1) + 1) + 1) + 1) + 10 ≤ 26 ∧ ((((((0 + 6) + 3) + 3) + 3) + 3) + 2) + 738 ≤ 900) ∧ m_mna M28 9 81 9 81 fun q29 M30 => m_p M30 l0 13 6 (va_rf (some q29)) fun M31 => (((((((((0 + 1) + 1) + 1) + 1) + 1) + 1) + 10) + 1 ≤ 26 ∧ (((((((0 + 6) + 3) + 3) + 3) + 3) + 2) + 738) + 6 ≤ 900) ∧ m_newI M31 0 6 6 fun q32 M33 => m_p M33 l0 13 7 (va_rf (some q32)) fun M34 => ∃ u : Nat, wX8_init_90 g κ u ((((((((0 + 1) + 1) + 1) + 1) + 1) + 1) + 10) + 1) ((((((((0 + 6) + 3) + 3) + 3) + 3) + 2) + 738) + 6) l0 0 M34))) (some b27) M25)) (some b22) M20)) (some b17) M15)) (some b12) M10)) (some b7) M5))
def wL_below (κ : Int32 → mM → Prop) (l0 : Int32) (l1 : Int32) (M : mM) : Prop :=
    (¬ l1 = 0 ∧ κ (m_rem (l0 &&& 2147483647) l1) M)
def wL_cell (κ : Int32 → mM → Prop) (l0 : Option Nat) (l1 : Int32) (M : mM) : Prop :=
    m_len M l0 fun x1 => ((x1 ≤ l1 → κ (790386105 * (l1 + 3)) M) ∧ (¬ (x1 ≤ l1) → m_ldI M l0 l1 8 fun x3 => κ x3 M))
def wL_night_358 (g : Nat → Nat) (κ : Option Nat → mM → Prop) : Nat → Nat → Nat → Option Nat → Option Nat → Int32 → Int32 → mM → Prop
  | 0 => fun _ _ _ _ _ _ _ => False
  | f + 1 => fun (k9 n9 : Nat) (l0 : Option Nat) (l1 : Option Nat) (l3 : Int32) (l4 : Int32) (M : mM) =>
    ((k9 ≤ 400 ∧ n9 ≤ 9000) ∧ ((10 ≤ l4 → ((k9 ≤ 400 ∧ n9 ≤ 9000) ∧ κ l1 M)) ∧ (¬ (10 ≤ l4) → wL_cell (fun x2 M3 => wL_below (fun x4 M5 => wL_below (fun x6 M7 => wL_below (fun x8 M9 => wL_below (fun x10 M11 => ((k9 + 2 ≤ 400 ∧ n9 + 41 ≤ 9000) ∧ m_rc M11 l1 13 fun b14 => wX8_part g (fun x12 M13 => (wL_night_358 g κ f) (k9 + 2) (n9 + 41) l0 l1 l3 (l4 + 1) M13) (fun _ _ => False) (some b14) x4 x6 x8 x10 M11)) (m_shr (m_shr x2 l4) 2) 10 M9) (m_shr (m_shr x2 l4) 5) 60 M7) (m_shr (m_shr x2 l4) 3) 4 M5) (m_shr x2 l4) l3 M3) l0 13 M)))
def wL_night_327 (g : Nat → Nat) (κ : Option Nat → mM → Prop) (R284 : Nat → Nat → Option Nat → Option Nat → Int32 → Int32 → mM → Prop) (k9 n9 : Nat) (l0 : Option Nat) (l1 : Option Nat) (l3 : Int32) (l4 : Int32) (s0 : Int32) (s1 : Int32) (s2 : Option Nat) (M : mM) : Prop :=
    ((k9 ≤ 400 ∧ n9 ≤ 9000) ∧ wL_cell (fun x1 M2 => wL_below (fun x3 M4 => ((k9 + 2 ≤ 400 ∧ n9 + 24 ≤ 9000) ∧ m_rc M4 s2 13 fun b7 => wX8_sleeper g (fun x5 M6 => R284 (k9 + 2) (n9 + 24) l0 l1 l3 (l4 + 1) M6) (fun _ _ => False) (some b7) s1 s0 (1 + x3) M4)) (m_shr x1 (2 * l4)) 9 M2) l0 12 M)
def wL_night_284 (g : Nat → Nat) (κ : Option Nat → mM → Prop) : Nat → Nat → Nat → Option Nat → Option Nat → Int32 → Int32 → mM → Prop
  | 0 => fun _ _ _ _ _ _ _ => False
  | f + 1 => fun (k9 n9 : Nat) (l0 : Option Nat) (l1 : Option Nat) (l3 : Int32) (l4 : Int32) (M : mM) =>
    ((k9 ≤ 400 ∧ n9 ≤ 9000) ∧ ((l3 ≤ l4 → ∃ u : Nat, wL_night_358 g κ u k9 n9 l0 l1 l3 0 M) ∧ (¬ (l3 ≤ l4) → wL_cell (fun x2 M3 => wL_below (fun x4 M5 => wL_cell (fun x6 M7 => wL_below (fun x8 M9 => ((x8 = 0 → wL_night_327 g κ (wL_night_284 g κ f) k9 n9 l0 l1 l3 l4 1 x4 l1 M9) ∧ (¬ (x8 = 0) → wL_night_327 g κ (wL_night_284 g κ f) k9 n9 l0 l1 l3 l4 0 x4 l1 M9))) (m_shr x6 l4) 3 M7) l0 11 M5) (m_shr x2 (2 * l4)) 4 M3) l0 10 M)))
def wL_night_161 (g : Nat → Nat) (κ : Option Nat → mM → Prop) : Nat → Nat → Nat → Option Nat → Option Nat → Int32 → Int32 → mM → Prop
  | 0 => fun _ _ _ _ _ _ _ => False
  | f + 1 => fun (k9 n9 : Nat) (l0 : Option Nat) (l1 : Option Nat) (l2 : Int32) (l3 : Int32) (M : mM) =>
    ((k9 ≤ 400 ∧ n9 ≤ 9000) ∧ ((l2 ≤ l3 → wL_cell (fun x2 M3 => wL_below (fun x4 M5 => ∃ u : Nat, wL_night_284 g κ u k9 n9 l0 l1 (2 + x4) 0 M5) x2 6 M3) l0 9 M) ∧ (¬ (l2 ≤ l3) → wL_cell (fun x6 M7 => wL_below (fun x8 M9 => wL_cell (fun x10 M11 => wL_below (fun x12 M13 => wL_cell (fun x14 M15 => wL_below (fun x16 M17 => wL_cell (fun x18 M19 => wL_below (fun x20 M21 => ((k9 + 5 ≤ 400 ∧ n9 + 27 ≤ 9000) ∧ m_rc M21 l1 13 fun b24 => wX8_gate g (fun x22 M23 => wL_cell (fun x25 M26 => wL_below (fun x27 M28 => m_rc M28 l1 13 fun b31 => wX8_odds (fun x29 M30 => (wL_night_161 g κ f) (k9 + 5) (n9 + 27) l0 l1 l2 (l3 + 1) M30) (fun _ _ => False) (some b31) l3 x27 M28) (m_shr x25 (3 * l3)) 11 M26) l0 8 M23) (fun _ _ => False) (some b24) x8 (m_rem ((x8 + 1) + x12) 4) x16 (1 + x20) M21)) (m_shr x18 (3 * l3)) 24 M19) l0 7 M17) (m_shr x14 (3 * l3)) 24 M15) l0 6 M13) (m_shr x10 (2 * l3)) 3 M11) l0 5 M9) (m_shr x6 (3 * l3)) 4 M7) l0 4 M)))
def wL_night_141 (g : Nat → Nat) (κ : Option Nat → mM → Prop) (R57 : Nat → Nat → Option Nat → Option Nat → Int32 → mM → Prop) (k9 n9 : Nat) (l0 : Option Nat) (l1 : Option Nat) (l2 : Int32) (M : mM) : Prop :=
    ((k9 ≤ 400 ∧ n9 ≤ 9000) ∧ R57 k9 n9 l0 l1 (l2 + 1) M)
def wL_night_57 (g : Nat → Nat) (κ : Option Nat → mM → Prop) : Nat → Nat → Nat → Option Nat → Option Nat → Int32 → mM → Prop
  | 0 => fun _ _ _ _ _ _ => False
  | f + 1 => fun (k9 n9 : Nat) (l0 : Option Nat) (l1 : Option Nat) (l2 : Int32) (M : mM) =>
    ((k9 ≤ 400 ∧ n9 ≤ 9000) ∧ ((2 ≤ l2 → wL_cell (fun x2 M3 => wL_below (fun x4 M5 => ∃ u : Nat, wL_night_161 g κ u k9 n9 l0 l1 (1 + x4) 0 M5) x2 4 M3) l0 3 M) ∧ (¬ (2 ≤ l2) → wL_cell (fun x6 M7 => wL_below (fun x8 M9 => wL_cell (fun x10 M11 => wL_below (fun x12 M13 => wL_cell (fun x14 M15 => wL_below (fun x16 M17 => ((x8 = x12 → wL_night_141 g κ (wL_night_57 g κ f) k9 n9 l0 l1 l2 M17) ∧ (¬ (x8 = x12) → m_rc M17 l1 13 fun b21 => wX8_ofLand (fun x19 M20 => ((x19 < (1 + x16) → wL_night_141 g κ (wL_night_57 g κ f) k9 n9 l0 l1 l2 M20) ∧ (¬ (x19 < (1 + x16)) → m_rc M20 l1 13 fun b25 => wX8_trade (fun x23 M24 => wL_night_141 g κ (wL_night_57 g κ f) k9 n9 l0 l1 l2 M24) (fun _ _ => False) (some b25) x8 x12 (1 + x16) M20))) (fun _ _ => False) (some b21) x8 2 M17))) (m_shr x14 ((3 * l2) + 12)) 5 M15) l0 2 M13) (m_shr x10 ((3 * l2) + 6)) 4 M11) l0 2 M9) (m_shr x6 (3 * l2)) 4 M7) l0 2 M)))
def wL_night_10 (g : Nat → Nat) (κ : Option Nat → mM → Prop) : Nat → Nat → Nat → Option Nat → Option Nat → Int32 → mM → Prop
  | 0 => fun _ _ _ _ _ _ => False
  | f + 1 => fun (k9 n9 : Nat) (l0 : Option Nat) (l1 : Option Nat) (l2 : Int32) (M : mM) =>
    ((k9 ≤ 400 ∧ n9 ≤ 9000) ∧ ((4 ≤ l2 → ∃ u : Nat, wL_night_57 g κ u k9 n9 l0 l1 0 M) ∧ (¬ (4 ≤ l2) → wL_cell (fun x2 M3 => wL_below (fun x4 M5 => wL_cell (fun x6 M7 => wL_below (fun x8 M9 => m_rc M9 l1 13 fun b12 => wX8_land (fun x10 M11 => (wL_night_10 g κ f) k9 n9 l0 l1 (l2 + 1) M11) (fun _ _ => False) (some b12) l2 x4 x8 M9) (m_shr x6 (3 * l2)) 60 M7) l0 1 M5) (m_shr x2 (3 * l2)) 51 M3) l0 0 M)))
def wL_night (g : Nat → Nat) (κ : Option Nat → mM → Prop) (l0 : Option Nat) (M : mM) : Prop :=
    ((0 + 1 ≤ 400 ∧ 0 + 11 ≤ 9000) ∧ m_new M 13 [.null, .null, .null, .null, .null, .null, .null, .null, .int 0, .int 0, .int 0] fun q1 M2 => (((0 + 1) + 26 ≤ 400 ∧ (0 + 11) + 900 ≤ 9000) ∧ m_rc M2 (some q1) 13 fun b4 => wX8_init g (fun M3 => ∃ u : Nat, wL_night_10 g κ u ((0 + 1) + 26) ((0 + 11) + 900) l0 (some q1) 0 M3) (some b4) M2))
def wL_come_138 (g : Nat → Nat) (κ : mM → Prop) (l0 : Option Nat) (l1 : Int32) (l2 : Int32) (l3 : Int32) (s0 : Int32) (M : mM) : Prop :=
    ((s0 = 0 → κ M) ∧ (¬ (s0 = 0) → m_rc M l0 13 fun b4 => wX8_ofSleeper (fun x2 M3 => ((x2 = 0 → m_rc M3 l0 13 fun b8 => wX8_ofSleeper (fun x6 M7 => m_rc M7 l0 13 fun b11 => wX8_join g (fun x9 M10 => κ M10) (fun _ _ => False) (some b11) l2 l3 (x6 &&& (m_shr l1 7)) M7) (fun _ _ => False) (some b8) l2 5 M3) ∧ (¬ (x2 = 0) → κ M3))) (fun _ _ => False) (some b4) l2 2 M))
def wL_come_133 (g : Nat → Nat) (κ : mM → Prop) (l0 : Option Nat) (l1 : Int32) (l2 : Int32) (l3 : Int32) (M : mM) : Prop :=
    wL_come_138 g κ l0 l1 l2 l3 1 M
def wL_come_99 (g : Nat → Nat) (κ : mM → Prop) (l0 : Option Nat) (l1 : Int32) (l2 : Int32) (l3 : Int32) (s0 : Int32) (s1 : Int32) (s2 : Int32) (s3 : Int32) (s4 : Option Nat) (M : mM) : Prop :=
    m_rc M s4 13 fun b3 => wX8_sing (fun x1 M2 => m_rc M2 l0 13 fun b6 => wX8_ofSleeper (fun x4 M5 => m_rc M5 l0 13 fun b9 => wX8_ofGate (fun x7 M8 => ((x7 = x4 → wL_come_133 g κ l0 l1 l2 l3 M8) ∧ (¬ (x7 = x4) → m_rc M8 l0 13 fun b13 => wX8_ofGate (fun x11 M12 => ((x11 = x4 → wL_come_133 g κ l0 l1 l2 l3 M12) ∧ (¬ (x11 = x4) → wL_come_138 g κ l0 l1 l2 l3 0 M12))) (fun _ _ => False) (some b13) l3 1 M8))) (fun _ _ => False) (some b9) l3 0 M5) (fun _ _ => False) (some b6) l2 0 M2) (fun _ _ => False) (some b3) s3 s2 s1 s0 M
def wL_come_66 (g : Nat → Nat) (κ : mM → Prop) (l0 : Option Nat) (l1 : Int32) (l2 : Int32) (l3 : Int32) (l4 : Int32) (l5 : Int32) (s0 : Int32) (s1 : Int32) (s2 : Int32) (s3 : Int32) (s4 : Int32) (s5 : Option Nat) (M : mM) : Prop :=
    ((3 ≤ l5 → ((l5 = 3 → wL_come_99 g κ l0 l1 l2 l3 (m_rem (l4 + 1) 97) (m_min s2 (s1 + s0)) s3 s4 s5 M) ∧ (¬ (l5 = 3) → wL_come_99 g κ l0 l1 l2 l3 l4 (m_min s2 (s1 + s0)) s3 s4 s5 M))) ∧ (¬ (3 ≤ l5) → wL_come_99 g κ l0 l1 l2 l3 l4 (m_min s2 (s1 + s0)) s3 s4 s5 M))
def wL_come (g : Nat → Nat) (κ : mM → Prop) (l0 : Option Nat) (l1 : Int32) (M : mM) : Prop :=
    m_rc M l0 13 fun b3 => wX8_night (fun x1 M2 => wL_below (fun x4 M5 => m_rc M5 l0 13 fun b8 => wX8_night (fun x6 M7 => wL_below (fun x9 M10 => m_rc M10 l0 13 fun b13 => wX8_night (fun x11 M12 => m_rc M12 l0 13 fun b16 => wX8_sing (fun x14 M15 => wL_below (fun x17 M18 => m_rc M18 l0 13 fun b21 => wX8_night (fun x19 M20 => ((x17 = 4 → wL_come_66 g κ l0 l1 x4 x9 x14 x17 1 x19 99 x9 x4 l0 M20) ∧ (¬ (x17 = 4) → wL_come_66 g κ l0 l1 x4 x9 x14 x17 0 x19 99 x9 x4 l0 M20))) (fun _ _ => False) (some b21) 0 M18) (m_shr l1 5) 5 M15) (fun _ _ => False) (some b16) x4 x9 x11 0 M12) (fun _ _ => False) (some b13) 0 M10) (m_shr l1 3) x6 M7) (fun _ _ => False) (some b8) 2 M5) l1 x1 M2) (fun _ _ => False) (some b3) 3 M
def wL_isDone (g : Nat → Nat) (κ : Int32 → mM → Prop) (l0 : Option Nat) (l1 : Int32) (M : mM) : Prop :=
    m_rc M l0 13 fun b3 => wX8_night (fun x1 M2 => wL_below (fun x4 M5 => m_rc M5 l0 13 fun b8 => wX8_night (fun x6 M7 => wL_below (fun x9 M10 => m_rc M10 l0 13 fun b13 => wX8_night (fun x11 M12 => wL_below (fun x14 M15 => wL_below (fun x16 M17 => ((x16 = 0 → m_rc M17 l0 13 fun b21 => wX8_yawn g (fun x19 M20 => κ 1 M20) (fun E9 M9 => (E9 = "java/lang/IllegalStateException" ∧ κ 0 M9)) (some b21) x4 M17) ∧ (¬ x16 = 0 → ((x16 = 1 → m_rc M17 l0 13 fun b25 => wX8_yawn g (fun x23 M24 => κ 1 M24) (fun E9 M9 => (E9 = "java/lang/IllegalStateException" ∧ κ 0 M9)) (some b25) x4 M17) ∧ (¬ x16 = 1 → ((x16 = 2 → m_rc M17 l0 13 fun b29 => wX8_yawn g (fun x27 M28 => κ 1 M28) (fun E9 M9 => (E9 = "java/lang/IllegalStateException" ∧ κ 0 M9)) (some b29) x4 M17) ∧ (¬ x16 = 2 → ((x16 = 3 → m_rc M17 l0 13 fun b33 => wX8_yawn g (fun x31 M32 => κ 1 M32) (fun E9 M9 => (E9 = "java/lang/IllegalStateException" ∧ κ 0 M9)) (some b33) x4 M17) ∧ (¬ x16 = 3 → ((x16 = 4 → m_rc M17 l0 13 fun b37 => wX8_leave (fun x35 M36 => κ 1 M36) (fun E9 M9 => (E9 = "java/lang/IllegalStateException" ∧ κ 0 M9)) (some b37) x9 M17) ∧ (¬ x16 = 4 → ((x16 = 5 → m_rc M17 l0 13 fun b41 => wX8_give (fun x39 M40 => κ 1 M40) (fun E9 M9 => (E9 = "java/lang/IllegalStateException" ∧ κ 0 M9)) (some b41) x14 x9 M17) ∧ (¬ x16 = 5 → ((x16 = 6 → m_rc M17 l0 13 fun b45 => wX8_appeal (fun x43 M44 => κ 1 M44) (fun E9 M9 => (E9 = "java/lang/IllegalStateException" ∧ κ 0 M9)) (some b45) x14 M17) ∧ (¬ x16 = 6 → ((x16 = 7 → m_rc M17 l0 13 fun b49 => wX8_relieve (fun x47 M48 => κ 1 M48) (fun E9 M9 => (E9 = "java/lang/IllegalStateException" ∧ κ 0 M9)) (some b49) x4 M17) ∧ (¬ x16 = 7 → ((x16 = 8 → m_rc M17 l0 13 fun b53 => wX8_night (fun x51 M52 => wL_below (fun x54 M55 => m_rc M55 l0 13 fun b58 => wX8_sing (fun x56 M57 => m_rc M57 l0 13 fun b61 => wX8_revoke (fun x59 M60 => κ 1 M60) (fun E9 M9 => (E9 = "java/lang/IllegalStateException" ∧ κ 0 M9)) (some b61) x4 x56 M57) (fun E9 M9 => (E9 = "java/lang/IllegalStateException" ∧ κ 0 M9)) (some b58) x9 x4 x51 x54 M55) (m_shr l1 3) 97 M52) (fun E9 M9 => (E9 = "java/lang/IllegalStateException" ∧ κ 0 M9)) (some b53) 0 M17) ∧ (¬ x16 = 8 → ((x16 = 9 → wL_below (fun x63 M64 => m_rc M64 l0 13 fun b67 => wX8_odds (fun x65 M66 => κ 1 M66) (fun E9 M9 => (E9 = "java/lang/IllegalStateException" ∧ κ 0 M9)) (some b67) x4 x63 M64) (m_shr l1 7) 11 M17) ∧ (¬ x16 = 9 → ((x16 = 10 → wL_below (fun x69 M70 => m_rc M70 l0 13 fun b73 => wX8_pass (fun x71 M72 => κ 1 M72) (fun E9 M9 => (E9 = "java/lang/IllegalStateException" ∧ κ 0 M9)) (some b73) (1 + x69) M70) (m_shr l1 4) 7 M17) ∧ (¬ x16 = 10 → wL_come g (fun M74 => κ 1 M74) l0 (m_shr l1 4) M17))))))))))))))))))))))) l1 13 M15) (m_shr l1 5) (m_max 1 x11) M12) (fun _ _ => False) (some b13) 5 M10) (m_shr l1 6) x6 M7) (fun _ _ => False) (some b8) 3 M5) (m_shr l1 4) x1 M2) (fun _ _ => False) (some b3) 2 M
def wL_isSo_459 (κ : Int32 → mM → Prop) (R425 : Option Nat → Int32 → Int32 → Int32 → Int32 → Int32 → mM → Prop) (l0 : Option Nat) (l1 : Int32) (l2 : Int32) (l3 : Int32) (l5 : Int32) (s0 : Int32) (s1 : Int32) (M : mM) : Prop :=
    R425 l0 l1 l2 l3 (s1 + s0) (l5 + 1) M
def wL_isSo_425 (κ : Int32 → mM → Prop) : Nat → Option Nat → Int32 → Int32 → Int32 → Int32 → Int32 → mM → Prop
  | 0 => fun _ _ _ _ _ _ _ => False
  | f + 1 => fun (l0 : Option Nat) (l1 : Int32) (l2 : Int32) (l3 : Int32) (l4 : Int32) (l5 : Int32) (M : mM) =>
    m_rc M l0 13 fun b3 => wX8_night (fun x1 M2 => ((x1 ≤ l5 → ((l1 = 30 → ((l2 = 0 → m_rc M2 l0 13 fun b9 => wX8_night (fun x7 M8 => ((l3 = x7 → m_rc M8 l0 13 fun b13 => wX8_night (fun x11 M12 => ((40 < x11 → κ 0 M12) ∧ (¬ (40 < x11) → m_rc M12 l0 13 fun b17 => wX8_night (fun x15 M16 => ((x15 = l4 → κ 1 M16) ∧ (¬ (x15 = l4) → κ 0 M16))) (fun _ _ => False) (some b17) 16 M12))) (fun _ _ => False) (some b13) 12 M8) ∧ (¬ (l3 = x7) → κ 0 M8))) (fun _ _ => False) (some b9) 12 M2) ∧ (¬ (l2 = 0) → κ 0 M2))) ∧ (¬ (l1 = 30) → κ 0 M2))) ∧ (¬ (x1 ≤ l5) → m_rc M2 l0 13 fun b21 => wX8_ofPart (fun x19 M20 => ((x19 = 3 → m_rc M20 l0 13 fun b25 => wX8_ofPart (fun x23 M24 => wL_isSo_459 κ (wL_isSo_425 κ f) l0 l1 l2 l3 l5 x23 l4 M24) (fun _ _ => False) (some b25) l5 1 M20) ∧ (¬ (x19 = 3) → wL_isSo_459 κ (wL_isSo_425 κ f) l0 l1 l2 l3 l5 0 l4 M20))) (fun _ _ => False) (some b21) l5 3 M2))) (fun _ _ => False) (some b3) 5 M
def wL_isSo_366 (κ : Int32 → mM → Prop) (R213 : Option Nat → Int32 → Int32 → Int32 → Int32 → mM → Prop) : Nat → Option Nat → Int32 → Int32 → Int32 → Int32 → Int32 → mM → Prop
  | 0 => fun _ _ _ _ _ _ _ => False
  | f + 1 => fun (l0 : Option Nat) (l1 : Int32) (l2 : Int32) (l3 : Int32) (l4 : Int32) (l7 : Int32) (M : mM) =>
    m_rc M l0 13 fun b3 => wX8_night (fun x1 M2 => ((x1 ≤ l7 → R213 l0 l1 l2 l3 (l4 + 1) M2) ∧ (¬ (x1 ≤ l7) → m_rc M2 l0 13 fun b7 => wX8_ofSleeper (fun x5 M6 => m_rc M6 l0 13 fun b10 => wX8_ofSleeper (fun x8 M9 => ((((m_shr x5 l7) &&& 1) = ((m_shr x8 l4) &&& 1) → (wL_isSo_366 κ R213 f) l0 l1 l2 l3 l4 (l7 + 1) M9) ∧ (¬ (((m_shr x5 l7) &&& 1) = ((m_shr x8 l4) &&& 1)) → κ 0 M9))) (fun _ _ => False) (some b10) l7 7 M6) (fun _ _ => False) (some b7) l4 7 M2))) (fun _ _ => False) (some b3) 3 M
def wL_isSo_323 (κ : Int32 → mM → Prop) (R213 : Option Nat → Int32 → Int32 → Int32 → Int32 → mM → Prop) (l0 : Option Nat) (l1 : Int32) (l2 : Int32) (l3 : Int32) (l4 : Int32) (M : mM) : Prop :=
    m_rc M l0 13 fun b3 => wX8_ofSleeper (fun x1 M2 => ((((m_shr x1 l4) &&& 1) = 0 → κ 0 M2) ∧ (¬ (((m_shr x1 l4) &&& 1) = 0) → m_rc M2 l0 13 fun b7 => wX8_ofSleeper (fun x5 M6 => ((x5 < 0 → κ 0 M6) ∧ (¬ (x5 < 0) → m_rc M6 l0 13 fun b11 => wX8_ofSleeper (fun x9 M10 => ((x9 ≤ 9 → ∃ u : Nat, wL_isSo_366 κ R213 u l0 l1 l2 l3 l4 0 M10) ∧ (¬ (x9 ≤ 9) → κ 0 M10))) (fun _ _ => False) (some b11) l4 1 M6))) (fun _ _ => False) (some b7) l4 1 M2))) (fun _ _ => False) (some b3) l4 7 M
def wL_isSo_291 (κ : Int32 → mM → Prop) (R213 : Option Nat → Int32 → Int32 → Int32 → Int32 → mM → Prop) (l0 : Option Nat) (l1 : Int32) (l2 : Int32) (l3 : Int32) (l4 : Int32) (l5 : Int32) (l6 : Int32) (s0 : Int32) (s1 : Int32) (M : mM) : Prop :=
    ((s1 = s0 → ((l5 < 0 → wL_isSo_323 κ R213 l0 l1 l2 l3 l4 M) ∧ (¬ (l5 < 0) → m_rc M l0 13 fun b5 => wX8_ofGate (fun x3 M4 => ((x3 = l6 → wL_isSo_323 κ R213 l0 l1 l2 l3 l4 M4) ∧ (¬ (x3 = l6) → m_rc M4 l0 13 fun b9 => wX8_ofGate (fun x7 M8 => ((x7 = l6 → wL_isSo_323 κ R213 l0 l1 l2 l3 l4 M8) ∧ (¬ (x7 = l6) → κ 0 M8))) (fun _ _ => False) (some b9) l5 1 M4))) (fun _ _ => False) (some b5) l5 0 M))) ∧ (¬ (s1 = s0) → κ 0 M))
def wL_isSo_275 (κ : Int32 → mM → Prop) (R213 : Option Nat → Int32 → Int32 → Int32 → Int32 → mM → Prop) (l0 : Option Nat) (l1 : Int32) (l2 : Int32) (l3 : Int32) (l4 : Int32) (l5 : Int32) (l6 : Int32) (s0 : Int32) (M : mM) : Prop :=
    m_rc M l0 13 fun b3 => wX8_ofSleeper (fun x1 M2 => ((x1 = 1 → wL_isSo_291 κ R213 l0 l1 l2 l3 l4 l5 l6 1 s0 M2) ∧ (¬ (x1 = 1) → wL_isSo_291 κ R213 l0 l1 l2 l3 l4 l5 l6 0 s0 M2))) (fun _ _ => False) (some b3) l4 2 M
def wL_isSo_263 (κ : Int32 → mM → Prop) (R213 : Option Nat → Int32 → Int32 → Int32 → Int32 → mM → Prop) (l0 : Option Nat) (l1 : Int32) (l3 : Int32) (l4 : Int32) (l5 : Int32) (l6 : Int32) (s0 : Int32) (s1 : Int32) (M : mM) : Prop :=
    ((l5 < 0 → wL_isSo_275 κ R213 l0 l1 (s1 - s0) l3 l4 l5 l6 0 M) ∧ (¬ (l5 < 0) → wL_isSo_275 κ R213 l0 l1 (s1 - s0) l3 l4 l5 l6 1 M))
def wL_isSo_213 (κ : Int32 → mM → Prop) : Nat → Option Nat → Int32 → Int32 → Int32 → Int32 → mM → Prop
  | 0 => fun _ _ _ _ _ _ => False
  | f + 1 => fun (l0 : Option Nat) (l1 : Int32) (l2 : Int32) (l3 : Int32) (l4 : Int32) (M : mM) =>
    m_rc M l0 13 fun b3 => wX8_night (fun x1 M2 => ((x1 ≤ l4 → ∃ u : Nat, wL_isSo_425 κ u l0 l1 l2 l3 0 0 M2) ∧ (¬ (x1 ≤ l4) → m_rc M2 l0 13 fun b7 => wX8_ofSleeper (fun x5 M6 => m_rc M6 l0 13 fun b10 => wX8_ofSleeper (fun x8 M9 => m_rc M9 l0 13 fun b13 => wX8_ofSleeper (fun x11 M12 => ((x5 < 0 → wL_isSo_263 κ (wL_isSo_213 κ f) l0 l1 (l3 + x11) l4 x5 x8 0 l2 M12) ∧ (¬ (x5 < 0) → wL_isSo_263 κ (wL_isSo_213 κ f) l0 l1 (l3 + x11) l4 x5 x8 1 l2 M12))) (fun _ _ => False) (some b13) l4 8 M9) (fun _ _ => False) (some b10) l4 0 M6) (fun _ _ => False) (some b7) l4 3 M2))) (fun _ _ => False) (some b3) 3 M
def wL_isSo_179 (κ : Int32 → mM → Prop) (R67 : Option Nat → Int32 → Int32 → Int32 → mM → Prop) (l0 : Option Nat) (l1 : Int32) (l2 : Int32) (l3 : Int32) (s0 : Int32) (s1 : Int32) (M : mM) : Prop :=
    ((s1 = s0 → m_rc M l0 13 fun b4 => wX8_ofGate (fun x2 M3 => ((x2 < 0 → κ 0 M3) ∧ (¬ (x2 < 0) → m_rc M3 l0 13 fun b8 => wX8_wouldPay (fun x6 M7 => ((0 ≤ x6 → R67 l0 l1 l2 (l3 + 1) M7) ∧ (¬ (0 ≤ x6) → κ 0 M7))) (fun _ _ => False) (some b8) l3 M3))) (fun _ _ => False) (some b4) l3 8 M) ∧ (¬ (s1 = s0) → κ 0 M))
def wL_isSo_164 (κ : Int32 → mM → Prop) (R67 : Option Nat → Int32 → Int32 → Int32 → mM → Prop) (l0 : Option Nat) (l1 : Int32) (l2 : Int32) (l3 : Int32) (s0 : Int32) (M : mM) : Prop :=
    m_rc M l0 13 fun b3 => wX8_ofGate (fun x1 M2 => ((x1 = 1 → wL_isSo_179 κ R67 l0 l1 l2 l3 1 s0 M2) ∧ (¬ (x1 = 1) → wL_isSo_179 κ R67 l0 l1 l2 l3 0 s0 M2))) (fun _ _ => False) (some b3) l3 5 M
def wL_isSo_146 (κ : Int32 → mM → Prop) (R67 : Option Nat → Int32 → Int32 → Int32 → mM → Prop) (l0 : Option Nat) (l1 : Int32) (l2 : Int32) (l3 : Int32) (s0 : Int32) (s1 : Int32) (M : mM) : Prop :=
    ((s1 = s0 → m_rc M l0 13 fun b4 => wX8_ofGate (fun x2 M3 => ((x2 < 5 → wL_isSo_164 κ R67 l0 l1 l2 l3 0 M3) ∧ (¬ (x2 < 5) → wL_isSo_164 κ R67 l0 l1 l2 l3 1 M3))) (fun _ _ => False) (some b4) l3 4 M) ∧ (¬ (s1 = s0) → κ 0 M))
def wL_isSo_131 (κ : Int32 → mM → Prop) (R67 : Option Nat → Int32 → Int32 → Int32 → mM → Prop) (l0 : Option Nat) (l1 : Int32) (l2 : Int32) (l3 : Int32) (s0 : Int32) (M : mM) : Prop :=
    m_rc M l0 13 fun b3 => wX8_ofGate (fun x1 M2 => ((x1 = 0 → wL_isSo_146 κ R67 l0 l1 l2 l3 1 s0 M2) ∧ (¬ (x1 = 0) → wL_isSo_146 κ R67 l0 l1 l2 l3 0 s0 M2))) (fun _ _ => False) (some b3) l3 6 M
def wL_isSo_121 (κ : Int32 → mM → Prop) (R67 : Option Nat → Int32 → Int32 → Int32 → mM → Prop) (l0 : Option Nat) (l1 : Int32) (l2 : Int32) (l3 : Int32) (l4 : Int32) (M : mM) : Prop :=
    ((0 ≤ l4 → wL_isSo_131 κ R67 l0 l1 l2 l3 0 M) ∧ (¬ (0 ≤ l4) → wL_isSo_131 κ R67 l0 l1 l2 l3 1 M))
def wL_isSo_67 (κ : Int32 → mM → Prop) : Nat → Option Nat → Int32 → Int32 → Int32 → mM → Prop
  | 0 => fun _ _ _ _ _ => False
  | f + 1 => fun (l0 : Option Nat) (l1 : Int32) (l2 : Int32) (l3 : Int32) (M : mM) =>
    m_rc M l0 13 fun b3 => wX8_night (fun x1 M2 => ((x1 ≤ l3 → ∃ u : Nat, wL_isSo_213 κ u l0 l1 l2 0 0 M2) ∧ (¬ (x1 ≤ l3) → m_rc M2 l0 13 fun b7 => wX8_ofGate (fun x5 M6 => m_rc M6 l0 13 fun b10 => wX8_ofGate (fun x8 M9 => ((x8 < 0 → wL_isSo_121 κ (wL_isSo_67 κ f) l0 l1 (l2 + x5) l3 x8 M9) ∧ (¬ (x8 < 0) → m_rc M9 l0 13 fun b14 => wX8_ofSleeper (fun x12 M13 => ((x12 = l3 → m_rc M13 l0 13 fun b18 => wX8_ofSleeper (fun x16 M17 => ((x16 = 0 → wL_isSo_121 κ (wL_isSo_67 κ f) l0 l1 (l2 + x5) l3 x8 M17) ∧ (¬ (x16 = 0) → κ 0 M17))) (fun _ _ => False) (some b18) x8 4 M13) ∧ (¬ (x12 = l3) → κ 0 M13))) (fun _ _ => False) (some b14) x8 3 M9))) (fun _ _ => False) (some b10) l3 7 M6) (fun _ _ => False) (some b7) l3 6 M2))) (fun _ _ => False) (some b3) 2 M
def wL_isSo_4 (κ : Int32 → mM → Prop) : Nat → Option Nat → Int32 → Int32 → mM → Prop
  | 0 => fun _ _ _ _ => False
  | f + 1 => fun (l0 : Option Nat) (l1 : Int32) (l2 : Int32) (M : mM) =>
    ((6 ≤ l2 → ∃ u : Nat, wL_isSo_67 κ u l0 l1 0 0 M) ∧ (¬ (6 ≤ l2) → m_rc M l0 13 fun b4 => wX8_ofLand (fun x2 M3 => m_rc M3 l0 13 fun b7 => wX8_ofLand (fun x5 M6 => ((x5 < 0 → κ 0 M6) ∧ (¬ (x5 < 0) → m_rc M6 l0 13 fun b11 => wX8_ofLand (fun x9 M10 => ((x9 < 0 → κ 0 M10) ∧ (¬ (x9 < 0) → m_rc M10 l0 13 fun b15 => wX8_ofLand (fun x13 M14 => ((x13 < 0 → κ 0 M14) ∧ (¬ (x13 < 0) → m_rc M14 l0 13 fun b19 => wX8_ofLand (fun x17 M18 => ((0 ≤ x17 → (wL_isSo_4 κ f) l0 (l1 + x2) (l2 + 1) M18) ∧ (¬ (0 ≤ x17) → κ 0 M18))) (fun _ _ => False) (some b19) l2 3 M14))) (fun _ _ => False) (some b15) l2 5 M10))) (fun _ _ => False) (some b11) l2 4 M6))) (fun _ _ => False) (some b7) l2 2 M3) (fun _ _ => False) (some b4) l2 2 M))
def wL_isSo (κ : Int32 → mM → Prop) (l0 : Option Nat) (M : mM) : Prop :=
    ∃ u : Nat, wL_isSo_4 κ u l0 0 0 M
def wL_law_427 (sb L : Nat) (xs : Nat → Int32) (g : Nat → Nat) (κ : Int32 → mM → Prop) (R90 : Nat → Nat → Option Nat → Option Nat → Int32 → Int32 → Option Nat → Option Nat → Option Nat → Option Nat → Int32 → mM → Prop) (R353 : Nat → Nat → Option Nat → Option Nat → Int32 → Int32 → Option Nat → Option Nat → Option Nat → Option Nat → Int32 → Int32 → mM → Prop) (k9 n9 : Nat) (l0 : Option Nat) (l1 : Option Nat) (l2 : Int32) (l3 : Int32) (l4 : Option Nat) (l5 : Option Nat) (l6 : Option Nat) (l7 : Option Nat) (l8 : Int32) (l13 : Int32) (s0 : Int32) (s1 : Int32) (s2 : Int32) (s3 : Option Nat) (M : mM) : Prop :=
    ((k9 ≤ 600104 ∧ n9 ≤ 7301313) ∧ m_stZ M s3 s2 (s1 ||| s0) fun M1 => R353 k9 n9 l0 l1 l2 l3 l4 l5 l6 l7 l8 (l13 + 1) M1)
def wL_law_410 (sb L : Nat) (xs : Nat → Int32) (g : Nat → Nat) (κ : Int32 → mM → Prop) (R90 : Nat → Nat → Option Nat → Option Nat → Int32 → Int32 → Option Nat → Option Nat → Option Nat → Option Nat → Int32 → mM → Prop) (R353 : Nat → Nat → Option Nat → Option Nat → Int32 → Int32 → Option Nat → Option Nat → Option Nat → Option Nat → Int32 → Int32 → mM → Prop) (k9 n9 : Nat) (l0 : Option Nat) (l1 : Option Nat) (l2 : Int32) (l3 : Int32) (l4 : Option Nat) (l5 : Option Nat) (l6 : Option Nat) (l7 : Option Nat) (l8 : Int32) (l13 : Int32) (l14 : Int32) (M : mM) : Prop :=
    ((k9 ≤ 600104 ∧ n9 ≤ 7301313) ∧ m_ldI M l6 l13 1 fun x1 => ((l14 = 2 → wL_law_427 sb L xs g κ R90 R353 k9 n9 l0 l1 l2 l3 l4 l5 l6 l7 l8 l13 1 x1 l13 l6 M) ∧ (¬ (l14 = 2) → wL_law_427 sb L xs g κ R90 R353 k9 n9 l0 l1 l2 l3 l4 l5 l6 l7 l8 l13 0 x1 l13 l6 M)))
def wL_law_382 (sb L : Nat) (xs : Nat → Int32) (g : Nat → Nat) (κ : Int32 → mM → Prop) (R90 : Nat → Nat → Option Nat → Option Nat → Int32 → Int32 → Option Nat → Option Nat → Option Nat → Option Nat → Int32 → mM → Prop) (R353 : Nat → Nat → Option Nat → Option Nat → Int32 → Int32 → Option Nat → Option Nat → Option Nat → Option Nat → Int32 → Int32 → mM → Prop) (k9 n9 : Nat) (l0 : Option Nat) (l1 : Option Nat) (l2 : Int32) (l3 : Int32) (l4 : Option Nat) (l5 : Option Nat) (l6 : Option Nat) (l7 : Option Nat) (l8 : Int32) (l13 : Int32) (l14 : Int32) (M : mM) : Prop :=
    ((k9 ≤ 600104 ∧ n9 ≤ 7301313) ∧ ((l14 = 2 → m_rc M l1 13 fun b4 => wX8_ofSleeper (fun x2 M3 => ((x2 = 0 → m_rc M3 l1 13 fun b8 => wX8_ofSleeper (fun x6 M7 => ((x6 = 0 → wL_law_410 sb L xs g κ R90 R353 k9 n9 l0 l1 l2 l3 l4 l5 l6 l7 l8 l13 l14 M7) ∧ (¬ (x6 = 0) → ((k9 ≤ 600104 ∧ n9 ≤ 7301313) ∧ κ 0 M7)))) (fun _ _ => False) (some b8) l13 1 M3) ∧ (¬ (x2 = 0) → ((k9 ≤ 600104 ∧ n9 ≤ 7301313) ∧ κ 0 M3)))) (fun _ _ => False) (some b4) l13 5 M) ∧ (¬ (l14 = 2) → wL_law_410 sb L xs g κ R90 R353 k9 n9 l0 l1 l2 l3 l4 l5 l6 l7 l8 l13 l14 M)))
def wL_law_353 (sb L : Nat) (xs : Nat → Int32) (g : Nat → Nat) (κ : Int32 → mM → Prop) (R90 : Nat → Nat → Option Nat → Option Nat → Int32 → Int32 → Option Nat → Option Nat → Option Nat → Option Nat → Int32 → mM → Prop) : Nat → Nat → Nat → Option Nat → Option Nat → Int32 → Int32 → Option Nat → Option Nat → Option Nat → Option Nat → Int32 → Int32 → mM → Prop
  | 0 => fun _ _ _ _ _ _ _ _ _ _ _ _ _ => False
  | f + 1 => fun (k9 n9 : Nat) (l0 : Option Nat) (l1 : Option Nat) (l2 : Int32) (l3 : Int32) (l4 : Option Nat) (l5 : Option Nat) (l6 : Option Nat) (l7 : Option Nat) (l8 : Int32) (l13 : Int32) (M : mM) =>
    ((k9 ≤ 600104 ∧ n9 ≤ 7301313) ∧ ((l3 ≤ l13 → wL_isSo (fun x2 M3 => ((x2 = 0 → ((k9 ≤ 600104 ∧ n9 ≤ 7301313) ∧ κ 0 M3)) ∧ (¬ (x2 = 0) → R90 k9 n9 l0 l1 l2 l3 l4 l5 l6 l7 (l8 + 1) M3))) l1 M) ∧ (¬ (l3 ≤ l13) → m_rc M l1 13 fun b7 => wX8_ofSleeper (fun x5 M6 => m_ldI M6 l6 l13 1 fun x8 => ((x8 = 0 → wL_law_382 sb L xs g κ R90 (wL_law_353 sb L xs g κ R90 f) k9 n9 l0 l1 l2 l3 l4 l5 l6 l7 l8 l13 x5 M6) ∧ (¬ (x8 = 0) → ((x5 = 2 → wL_law_382 sb L xs g κ R90 (wL_law_353 sb L xs g κ R90 f) k9 n9 l0 l1 l2 l3 l4 l5 l6 l7 l8 l13 x5 M6) ∧ (¬ (x5 = 2) → ((k9 ≤ 600104 ∧ n9 ≤ 7301313) ∧ κ 0 M6)))))) (fun _ _ => False) (some b7) l13 2 M)))
def wL_law_342 (sb L : Nat) (xs : Nat → Int32) (g : Nat → Nat) (κ : Int32 → mM → Prop) (R90 : Nat → Nat → Option Nat → Option Nat → Int32 → Int32 → Option Nat → Option Nat → Option Nat → Option Nat → Int32 → mM → Prop) (R227 : Nat → Nat → Option Nat → Option Nat → Int32 → Int32 → Option Nat → Option Nat → Option Nat → Option Nat → Int32 → Int32 → mM → Prop) (k9 n9 : Nat) (l0 : Option Nat) (l1 : Option Nat) (l2 : Int32) (l3 : Int32) (l4 : Option Nat) (l5 : Option Nat) (l6 : Option Nat) (l7 : Option Nat) (l8 : Int32) (l13 : Int32) (s0 : Int32) (s1 : Int32) (s2 : Int32) (s3 : Option Nat) (M : mM) : Prop :=
    ((k9 ≤ 600104 ∧ n9 ≤ 7301313) ∧ m_stZ M s3 s2 (s1 ||| s0) fun M1 => R227 k9 n9 l0 l1 l2 l3 l4 l5 l6 l7 l8 (l13 + 1) M1)
def wL_law_325 (sb L : Nat) (xs : Nat → Int32) (g : Nat → Nat) (κ : Int32 → mM → Prop) (R90 : Nat → Nat → Option Nat → Option Nat → Int32 → Int32 → Option Nat → Option Nat → Option Nat → Option Nat → Int32 → mM → Prop) (R227 : Nat → Nat → Option Nat → Option Nat → Int32 → Int32 → Option Nat → Option Nat → Option Nat → Option Nat → Int32 → Int32 → mM → Prop) (k9 n9 : Nat) (l0 : Option Nat) (l1 : Option Nat) (l2 : Int32) (l3 : Int32) (l4 : Option Nat) (l5 : Option Nat) (l6 : Option Nat) (l7 : Option Nat) (l8 : Int32) (l13 : Int32) (l14 : Int32) (M : mM) : Prop :=
    ((k9 ≤ 600104 ∧ n9 ≤ 7301313) ∧ m_ldI M l5 l13 1 fun x1 => ((l14 = (-1) → wL_law_342 sb L xs g κ R90 R227 k9 n9 l0 l1 l2 l3 l4 l5 l6 l7 l8 l13 1 x1 l13 l5 M) ∧ (¬ (l14 = (-1)) → wL_law_342 sb L xs g κ R90 R227 k9 n9 l0 l1 l2 l3 l4 l5 l6 l7 l8 l13 0 x1 l13 l5 M)))
def wL_law_303 (sb L : Nat) (xs : Nat → Int32) (g : Nat → Nat) (κ : Int32 → mM → Prop) (R90 : Nat → Nat → Option Nat → Option Nat → Int32 → Int32 → Option Nat → Option Nat → Option Nat → Option Nat → Int32 → mM → Prop) (R227 : Nat → Nat → Option Nat → Option Nat → Int32 → Int32 → Option Nat → Option Nat → Option Nat → Option Nat → Int32 → Int32 → mM → Prop) (k9 n9 : Nat) (l0 : Option Nat) (l1 : Option Nat) (l2 : Int32) (l3 : Int32) (l4 : Option Nat) (l5 : Option Nat) (l6 : Option Nat) (l7 : Option Nat) (l8 : Int32) (l13 : Int32) (l14 : Int32) (l15 : Int32) (M : mM) : Prop :=
    ((k9 ≤ 600104 ∧ n9 ≤ 7301313) ∧ ((l15 < 0 → wL_law_325 sb L xs g κ R90 R227 k9 n9 l0 l1 l2 l3 l4 l5 l6 l7 l8 l13 l14 M) ∧ (¬ (l15 < 0) → m_rc M l1 13 fun b4 => wX8_ofSleeper (fun x2 M3 => ((((m_shr x2 l13) &&& 1) = 0 → ((k9 ≤ 600104 ∧ n9 ≤ 7301313) ∧ κ 0 M3)) ∧ (¬ (((m_shr x2 l13) &&& 1) = 0) → wL_law_325 sb L xs g κ R90 R227 k9 n9 l0 l1 l2 l3 l4 l5 l6 l7 l8 l13 l14 M3))) (fun _ _ => False) (some b4) l15 5 M)))
def wL_law_227 (sb L : Nat) (xs : Nat → Int32) (g : Nat → Nat) (κ : Int32 → mM → Prop) (R90 : Nat → Nat → Option Nat → Option Nat → Int32 → Int32 → Option Nat → Option Nat → Option Nat → Option Nat → Int32 → mM → Prop) : Nat → Nat → Nat → Option Nat → Option Nat → Int32 → Int32 → Option Nat → Option Nat → Option Nat → Option Nat → Int32 → Int32 → mM → Prop
  | 0 => fun _ _ _ _ _ _ _ _ _ _ _ _ _ => False
  | f + 1 => fun (k9 n9 : Nat) (l0 : Option Nat) (l1 : Option Nat) (l2 : Int32) (l3 : Int32) (l4 : Option Nat) (l5 : Option Nat) (l6 : Option Nat) (l7 : Option Nat) (l8 : Int32) (l13 : Int32) (M : mM) =>
    ((k9 ≤ 600104 ∧ n9 ≤ 7301313) ∧ ((l2 ≤ l13 → ∃ u : Nat, wL_law_353 sb L xs g κ R90 u k9 n9 l0 l1 l2 l3 l4 l5 l6 l7 l8 0 M) ∧ (¬ (l2 ≤ l13) → m_rc M l1 13 fun b4 => wX8_ofPart (fun x2 M3 => m_rc M3 l1 13 fun b7 => wX8_ofPart (fun x5 M6 => m_ldI M6 l4 l13 0 fun x8 => m_rc M6 l1 13 fun b11 => wX8_ofPart (fun x9 M10 => m_rc M10 l1 13 fun b14 => wX8_ofPart (fun x12 M13 => m_rc M13 l1 13 fun b17 => wX8_ofPart (fun x15 M16 => ((x8 = (((100 * x9) + x12) + (1000 * x15)) → m_ldI M16 l5 l13 1 fun x19 => ((x19 = 0 → wL_law_303 sb L xs g κ R90 (wL_law_227 sb L xs g κ R90 f) k9 n9 l0 l1 l2 l3 l4 l5 l6 l7 l8 l13 x2 x5 M16) ∧ (¬ (x19 = 0) → ((x2 = (-1) → wL_law_303 sb L xs g κ R90 (wL_law_227 sb L xs g κ R90 f) k9 n9 l0 l1 l2 l3 l4 l5 l6 l7 l8 l13 x2 x5 M16) ∧ (¬ (x2 = (-1)) → ((k9 ≤ 600104 ∧ n9 ≤ 7301313) ∧ κ 0 M16)))))) ∧ (¬ (x8 = (((100 * x9) + x12) + (1000 * x15))) → ((k9 ≤ 600104 ∧ n9 ≤ 7301313) ∧ κ 0 M16)))) (fun _ _ => False) (some b17) l13 2 M13) (fun _ _ => False) (some b14) l13 1 M10) (fun _ _ => False) (some b11) l13 0 M6) (fun _ _ => False) (some b7) l13 5 M3) (fun _ _ => False) (some b4) l13 4 M)))
def wL_law_187 (sb L : Nat) (xs : Nat → Int32) (g : Nat → Nat) (κ : Int32 → mM → Prop) (R90 : Nat → Nat → Option Nat → Option Nat → Int32 → Int32 → Option Nat → Option Nat → Option Nat → Option Nat → Int32 → mM → Prop) : Nat → Nat → Nat → Option Nat → Option Nat → Int32 → Int32 → Option Nat → Option Nat → Option Nat → Option Nat → Int32 → Option Nat → Int32 → mM → Prop
  | 0 => fun _ _ _ _ _ _ _ _ _ _ _ _ _ _ => False
  | f + 1 => fun (k9 n9 : Nat) (l0 : Option Nat) (l1 : Option Nat) (l2 : Int32) (l3 : Int32) (l4 : Option Nat) (l5 : Option Nat) (l6 : Option Nat) (l7 : Option Nat) (l8 : Int32) (l12 : Option Nat) (l13 : Int32) (M : mM) =>
    ((k9 ≤ 600104 ∧ n9 ≤ 7301313) ∧ ((4 ≤ l13 → ∃ u : Nat, wL_law_227 sb L xs g κ R90 u k9 n9 l0 l1 l2 l3 l4 l5 l6 l7 l8 0 M) ∧ (¬ (4 ≤ l13) → m_ldI M l12 l13 0 fun x2 => m_ldI M l7 l13 0 fun x3 => ((x3 ≤ x2 → m_ldI M l12 l13 0 fun x5 => m_stI M l7 l13 x5 fun M6 => (wL_law_187 sb L xs g κ R90 f) k9 n9 l0 l1 l2 l3 l4 l5 l6 l7 l8 l12 (l13 + 1) M6) ∧ (¬ (x3 ≤ x2) → ((k9 ≤ 600104 ∧ n9 ≤ 7301313) ∧ κ 0 M))))))
def wL_law_135 (sb L : Nat) (xs : Nat → Int32) (g : Nat → Nat) (κ : Int32 → mM → Prop) (R90 : Nat → Nat → Option Nat → Option Nat → Int32 → Int32 → Option Nat → Option Nat → Option Nat → Option Nat → Int32 → mM → Prop) (k9 n9 : Nat) (l0 : Option Nat) (l1 : Option Nat) (l2 : Int32) (l3 : Int32) (l4 : Option Nat) (l5 : Option Nat) (l6 : Option Nat) (l7 : Option Nat) (l8 : Int32) (M : mM) : Prop :=
    ((k9 ≤ 600104 ∧ n9 ≤ 7301313) ∧ ((k9 + 1 ≤ 600104 ∧ n9 + 24 ≤ 7301313) ∧ m_newI M 0 4 24 fun q1 M2 => m_rc M2 l1 13 fun b5 => wX8_night (fun x3 M4 => m_stI M4 (some q1) 0 x3 fun M6 => m_rc M6 l1 13 fun b9 => wX8_night (fun x7 M8 => m_stI M8 (some q1) 1 x7 fun M10 => m_rc M10 l1 13 fun b13 => wX8_night (fun x11 M12 => m_stI M12 (some q1) 2 x11 fun M14 => m_rc M14 l1 13 fun b17 => wX8_night (fun x15 M16 => m_rc M16 l1 13 fun b20 => wX8_night (fun x18 M19 => m_stI M19 (some q1) 3 ((x15 * 24) + x18) fun M21 => ∃ u : Nat, wL_law_187 sb L xs g κ R90 u (k9 + 1) (n9 + 24) l0 l1 l2 l3 l4 l5 l6 l7 l8 (some q1) 0 M21) (fun _ _ => False) (some b20) 1 M16) (fun _ _ => False) (some b17) 0 M14) (fun _ _ => False) (some b13) 15 M10) (fun _ _ => False) (some b9) 13 M6) (fun _ _ => False) (some b5) 12 M2))
def wL_law_90 (sb L : Nat) (xs : Nat → Int32) (g : Nat → Nat) (κ : Int32 → mM → Prop) : Nat → Nat → Nat → Option Nat → Option Nat → Int32 → Int32 → Option Nat → Option Nat → Option Nat → Option Nat → Int32 → mM → Prop
  | 0 => fun _ _ _ _ _ _ _ _ _ _ _ _ => False
  | f + 1 => fun (k9 n9 : Nat) (l0 : Option Nat) (l1 : Option Nat) (l2 : Int32) (l3 : Int32) (l4 : Option Nat) (l5 : Option Nat) (l6 : Option Nat) (l7 : Option Nat) (l8 : Int32) (M : mM) =>
    ((k9 ≤ 600104 ∧ n9 ≤ 7301313) ∧ ((22 ≤ l8 → m_rc M l1 13 fun b4 => wX8_digest (fun x2 M3 => m_rc M3 l1 13 fun b7 => wX8_isSound (fun x5 M6 => ((x5 = 0 → ((k9 ≤ 600104 ∧ n9 ≤ 7301313) ∧ κ 0 M6)) ∧ (¬ (x5 = 0) → m_rc M6 l1 13 fun b11 => wX8_digest (fun x9 M10 => (((lg_cmp x9 x2) = 0 → ((k9 ≤ 600104 ∧ n9 ≤ 7301313) ∧ κ 1 M10)) ∧ (¬ ((lg_cmp x9 x2) = 0) → ((k9 ≤ 600104 ∧ n9 ≤ 7301313) ∧ κ 0 M10)))) (some b11) M6))) (some b7) M3) (some b4) M) ∧ (¬ (22 ≤ l8) → wL_cell (fun x13 M14 => m_rc M14 l1 13 fun b17 => wX8_digest (fun x15 M16 => ((k9 + 53 ≤ 600104 ∧ n9 + 1278 ≤ 7301313) ∧ wL_isDone g (fun x18 M19 => ((x18 = 0 → m_rc M19 l1 13 fun b23 => wX8_digest (fun x21 M22 => (((lg_cmp x21 x15) = 0 → wL_law_135 sb L xs g κ (wL_law_90 sb L xs g κ f) (k9 + 53) (n9 + 1278) l0 l1 l2 l3 l4 l5 l6 l7 l8 M22) ∧ (¬ ((lg_cmp x21 x15) = 0) → (((k9 + 53) ≤ 600104 ∧ (n9 + 1278) ≤ 7301313) ∧ κ 0 M22)))) (some b23) M19) ∧ (¬ (x18 = 0) → wL_law_135 sb L xs g κ (wL_law_90 sb L xs g κ f) (k9 + 53) (n9 + 1278) l0 l1 l2 l3 l4 l5 l6 l7 l8 M19))) l1 x13 M16)) (some b17) M14) l0 (14 + l8) M)))
def wL_law_35 (sb L : Nat) (xs : Nat → Int32) (g : Nat → Nat) (κ : Int32 → mM → Prop) : Nat → Nat → Nat → Option Nat → Option Nat → Int32 → Int32 → Option Nat → Option Nat → Option Nat → Int32 → mM → Prop
  | 0 => fun _ _ _ _ _ _ _ _ _ _ _ => False
  | f + 1 => fun (k9 n9 : Nat) (l0 : Option Nat) (l1 : Option Nat) (l2 : Int32) (l3 : Int32) (l4 : Option Nat) (l5 : Option Nat) (l6 : Option Nat) (l7 : Int32) (M : mM) =>
    ((k9 ≤ 600104 ∧ n9 ≤ 7301313) ∧ ((l2 ≤ l7 → ((k9 + 1 ≤ 600104 ∧ n9 + 24 ≤ 7301313) ∧ m_newI M 0 4 24 fun q2 M3 => ∃ u : Nat, wL_law_90 sb L xs g κ u (k9 + 1) (n9 + 24) l0 l1 l2 l3 l4 l5 l6 (some q2) 0 M3)) ∧ (¬ (l2 ≤ l7) → m_rc M l1 13 fun b6 => wX8_ofPart (fun x4 M5 => m_rc M5 l1 13 fun b9 => wX8_ofPart (fun x7 M8 => m_rc M8 l1 13 fun b12 => wX8_ofPart (fun x10 M11 => m_stI M11 l4 l7 (((100 * x4) + x7) + (1000 * x10)) fun M13 => (wL_law_35 sb L xs g κ f) k9 n9 l0 l1 l2 l3 l4 l5 l6 (l7 + 1) M13) (fun _ _ => False) (some b12) l7 2 M8) (fun _ _ => False) (some b9) l7 1 M5) (fun _ _ => False) (some b6) l7 0 M)))
def wL_law (sb L : Nat) (xs : Nat → Int32) (g : Nat → Nat) (κ : Int32 → mM → Prop) (l0 : Option Nat) (M : mM) : Prop :=
    ((0 + 400 ≤ 600104 ∧ 0 + 9000 ≤ 7301313) ∧ wL_night g (fun x1 M2 => m_rc M2 x1 13 fun b5 => wX8_night (fun x3 M4 => m_rc M4 x1 13 fun b8 => wX8_night (fun x6 M7 => (((0 + 400) + 1 ≤ 600104 ∧ (0 + 9000) + 24 ≤ 7301313) ∧ m_newI M7 0 x3 24 fun q9 M10 => ((((0 + 400) + 1) + 1 ≤ 600104 ∧ ((0 + 9000) + 24) + 24 ≤ 7301313) ∧ m_newI M10 1 x3 24 fun q11 M12 => (((((0 + 400) + 1) + 1) + 1 ≤ 600104 ∧ (((0 + 9000) + 24) + 24) + 24 ≤ 7301313) ∧ m_newI M12 1 x6 24 fun q13 M14 => ∃ u : Nat, wL_law_35 sb L xs g κ u ((((0 + 400) + 1) + 1) + 1) ((((0 + 9000) + 24) + 24) + 24) l0 x1 x3 x6 (some q9) (some q11) (some q13) 0 M14)))) (fun _ _ => False) (some b8) 3 M4) (fun _ _ => False) (some b5) 5 M2) l0 M)
