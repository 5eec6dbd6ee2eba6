theorem zin0 : ∀ w ∈ u_ws zR0 zT0 2, w ∈ gw := by decide +kernel
theorem zin1 : ∀ w ∈ u_ws zR1 zT1 13, w ∈ gw := by decide +kernel
theorem zin2 : ∀ w ∈ u_ws zR2 zT2 3, w ∈ gw := by decide +kernel
theorem zin3 : ∀ w ∈ u_ws zR3 zT3 3, w ∈ gw := by decide +kernel
theorem zin4 : ∀ w ∈ u_ws zR4 zT4 4, w ∈ gw := by decide +kernel
theorem zin5 : ∀ w ∈ u_ws zR5 zT5 6, w ∈ gw := by decide +kernel
theorem zin6 : ∀ w ∈ u_ws zR6 zT6 2, w ∈ gw := by decide +kernel
theorem zin7 : ∀ w ∈ u_ws zR7 zT7 6, w ∈ gw := by decide +kernel
theorem zin8 : ∀ w ∈ u_ws zR8 zT8 10, w ∈ gw := by decide +kernel
theorem zin9 : ∀ w ∈ u_ws zR9 zT9 26, w ∈ gw := by decide +kernel
abbrev ws_Pm_init : List Cond := Cond.code zyPm_init zbPm_init 1 none :: gw
abbrev ws_Pm_type : List Cond := Cond.code zyPm_type zbPm_type 3 (some .boolean) :: gw
abbrev ws_Pm_erase : List Cond := Cond.code zyPm_erase zbPm_erase 2 (some .int) :: gw
abbrev ws_Pm_free : List Cond := Cond.code zyPm_free zbPm_free 2 (some .boolean) :: gw
abbrev ws_Pm_begin : List Cond := Cond.code zyPm_begin zbPm_begin 2 (some .int) :: gw
abbrev ws_Pm_stop : List Cond := Cond.code zyPm_stop zbPm_stop 2 (some .boolean) :: gw
abbrev ws_Pm_fault : List Cond := Cond.code zyPm_fault zbPm_fault 1 (some .int) :: gw
abbrev ws_Pm_event : List Cond := Cond.code zyPm_event zbPm_event 4 (some .int) :: gw
abbrev ws_Pm_nextDay : List Cond := Cond.code zyPm_nextDay zbPm_nextDay 2 (some .int) :: gw
abbrev ws_Pm_undo : List Cond := Cond.code zyPm_undo zbPm_undo 1 (some .boolean) :: gw
abbrev ws_Pm_today : List Cond := Cond.code zyPm_today zbPm_today 1 (some .int) :: gw
abbrev ws_Pm_duty : List Cond := Cond.code zyPm_duty zbPm_duty 2 (some .int) :: gw
abbrev ws_Pm_count : List Cond := Cond.code zyPm_count zbPm_count 2 (some .int) :: gw
abbrev ws_Pm_breaches : List Cond := Cond.code zyPm_breaches zbPm_breaches 2 (some .int) :: gw
abbrev ws_Pm_may : List Cond := Cond.code zyPm_may zbPm_may 3 (some .int) :: gw
abbrev ws_Pm_owed : List Cond := Cond.code zyPm_owed zbPm_owed 3 (some .int) :: gw
abbrev ws_Pm_course : List Cond := Cond.code zyPm_course zbPm_course 3 (some .int) :: gw
abbrev ws_Pm_threat : List Cond := Cond.code zyPm_threat zbPm_threat 5 (some .int) :: gw
abbrev ws_Pm_isParty : List Cond := Cond.code zyPm_isParty zbPm_isParty 1 (some .boolean) :: gw
abbrev ws_Pm_isKind : List Cond := Cond.code zyPm_isKind zbPm_isKind 1 (some .boolean) :: gw
abbrev ws_Pm_canSearch : List Cond := Cond.code zyPm_canSearch zbPm_canSearch 3 (some .boolean) :: gw
abbrev ws_Pm_moveToTrial : List Cond := Cond.code zyPm_moveToTrial zbPm_moveToTrial 1 none :: gw
abbrev ws_Mo_init : List Cond := Cond.code zyMo_init zbMo_init 1 none :: gw
abbrev ws_Mo_thrown : List Cond := Cond.code zyMo_thrown zbMo_thrown 1 (some .int) :: gw
abbrev ws_Mo_type : List Cond := Cond.code zyMo_type zbMo_type 6 (some .boolean) :: gw
abbrev ws_Mo_erase : List Cond := Cond.code zyMo_erase zbMo_erase 2 (some .int) :: gw
abbrev ws_Mo_free : List Cond := Cond.code zyMo_free zbMo_free 2 (some .boolean) :: gw
abbrev ws_Mo_charAt : List Cond := Cond.code zyMo_charAt zbMo_charAt 2 (some .int) :: gw
abbrev ws_Mo_party : List Cond := Cond.code zyMo_party zbMo_party 3 (some .int) :: gw
abbrev ws_Mo_kind : List Cond := Cond.code zyMo_kind zbMo_kind 3 (some .int) :: gw
abbrev ws_Mo_digit : List Cond := Cond.code zyMo_digit zbMo_digit 3 (some .int) :: gw
abbrev ws_Mo_readTrigger : List Cond := Cond.code zyMo_readTrigger zbMo_readTrigger 5 (some .int) :: gw
abbrev ws_Mo_overPair : List Cond := Cond.code zyMo_overPair zbMo_overPair 2 (some .int) :: gw
abbrev ws_Mo_readBound : List Cond := Cond.code zyMo_readBound zbMo_readBound 4 (some .int) :: gw
abbrev ws_Mo_readAction : List Cond := Cond.code zyMo_readAction zbMo_readAction 4 (some .int) :: gw
abbrev ws_Mo_readClause : List Cond := Cond.code zyMo_readClause zbMo_readClause 4 (some .int) :: gw
abbrev ws_Mo_readAll : List Cond := Cond.code zyMo_readAll zbMo_readAll 5 (some .int) :: gw
abbrev ws_Mo_refersWell : List Cond := Cond.code zyMo_refersWell zbMo_refersWell 7 (some .boolean) :: gw
abbrev ws_Mo_goesRound : List Cond := Cond.code zyMo_goesRound zbMo_goesRound 6 (some .boolean) :: gw
abbrev ws_Mo_faultOf : List Cond := Cond.code zyMo_faultOf zbMo_faultOf 4 (some .int) :: gw
abbrev ws_Mo_copy : List Cond := Cond.code zyMo_copy zbMo_copy 4 none :: gw
abbrev ws_Mo_dayAfter : List Cond := Cond.code zyMo_dayAfter zbMo_dayAfter 5 (some .int) :: gw
abbrev ws_Mo_put : List Cond := Cond.code zyMo_put zbMo_put 6 none :: gw
abbrev ws_Mo_takeOut : List Cond := Cond.code zyMo_takeOut zbMo_takeOut 6 none :: gw
abbrev ws_Mo_clauseAt : List Cond := Cond.code zyMo_clauseAt zbMo_clauseAt 4 (some .int) :: gw
abbrev ws_Mo_dayAt : List Cond := Cond.code zyMo_dayAt zbMo_dayAt 4 (some .int) :: gw
abbrev ws_Mo_isOf : List Cond := Cond.code zyMo_isOf zbMo_isOf 4 (some .boolean) :: gw
abbrev ws_Mo_first : List Cond := Cond.code zyMo_first zbMo_first 9 (some .int) :: gw
abbrev ws_Mo_await : List Cond := Cond.code zyMo_await zbMo_await 7 none :: gw
abbrev ws_Mo_breach : List Cond := Cond.code zyMo_breach zbMo_breach 4 none :: gw
abbrev ws_Mo_act : List Cond := Cond.code zyMo_act zbMo_act 7 none :: gw
abbrev ws_Mo_run : List Cond := Cond.code zyMo_run zbMo_run 5 none :: gw
abbrev ws_Mo_start : List Cond := Cond.code zyMo_start zbMo_start 1 none :: gw
abbrev ws_Mo_eventIn : List Cond := Cond.code zyMo_eventIn zbMo_eventIn 7 none :: gw
abbrev ws_Mo_passOver : List Cond := Cond.code zyMo_passOver zbMo_passOver 4 none :: gw
abbrev ws_Mo_endIn : List Cond := Cond.code zyMo_endIn zbMo_endIn 4 none :: gw
abbrev ws_Mo_begin : List Cond := Cond.code zyMo_begin zbMo_begin 5 (some .int) :: gw
abbrev ws_Mo_stop : List Cond := Cond.code zyMo_stop zbMo_stop 2 (some .boolean) :: gw
abbrev ws_Mo_fault : List Cond := Cond.code zyMo_fault zbMo_fault 1 (some .int) :: gw
abbrev ws_Mo_settle : List Cond := Cond.code zyMo_settle zbMo_settle 2 (some .int) :: gw
abbrev ws_Mo_isParty : List Cond := Cond.code zyMo_isParty zbMo_isParty 1 (some .boolean) :: gw
abbrev ws_Mo_isKind : List Cond := Cond.code zyMo_isKind zbMo_isKind 1 (some .boolean) :: gw
abbrev ws_Mo_event : List Cond := Cond.code zyMo_event zbMo_event 3 (some .int) :: gw
abbrev ws_Mo_nextDay : List Cond := Cond.code zyMo_nextDay zbMo_nextDay 2 (some .int) :: gw
abbrev ws_Mo_undo : List Cond := Cond.code zyMo_undo zbMo_undo 2 (some .boolean) :: gw
abbrev ws_Mo_today : List Cond := Cond.code zyMo_today zbMo_today 1 (some .int) :: gw
abbrev ws_Mo_duty : List Cond := Cond.code zyMo_duty zbMo_duty 8 (some .int) :: gw
abbrev ws_Mo_count : List Cond := Cond.code zyMo_count zbMo_count 2 (some .int) :: gw
abbrev ws_Mo_breaches : List Cond := Cond.code zyMo_breaches zbMo_breaches 2 (some .int) :: gw
abbrev ws_Mo_may : List Cond := Cond.code zyMo_may zbMo_may 3 (some .int) :: gw
abbrev ws_Mo_owed : List Cond := Cond.code zyMo_owed zbMo_owed 3 (some .int) :: gw
abbrev ws_Mo_goes : List Cond := Cond.code zyMo_goes zbMo_goes 8 (some .boolean) :: gw
abbrev ws_Mo_hasOne : List Cond := Cond.code zyMo_hasOne zbMo_hasOne 6 (some .boolean) :: gw
abbrev ws_Mo_firstCourse : List Cond := Cond.code zyMo_firstCourse zbMo_firstCourse 5 (some .int) :: gw
abbrev ws_Mo_askCode : List Cond := Cond.code zyMo_askCode zbMo_askCode 3 (some .int) :: gw
abbrev ws_Mo_course : List Cond := Cond.code zyMo_course zbMo_course 4 (some .int) :: gw
abbrev ws_Mo_threat : List Cond := Cond.code zyMo_threat zbMo_threat 5 (some .int) :: gw
abbrev ws_Ag_init : List Cond := Cond.code zyAg_init zbAg_init 2 none :: gw
abbrev ws_Ag_find : List Cond := Cond.code zyAg_find zbAg_find 5 (some .int) :: gw
abbrev ws_Ag_isTouchedBy : List Cond := Cond.code zyAg_isTouchedBy zbAg_isTouchedBy 5 (some .boolean) :: gw
abbrev ws_Ag_hasDutyDue : List Cond := Cond.code zyAg_hasDutyDue zbAg_hasDutyDue 4 (some .boolean) :: gw
abbrev ws_Ag_faultOfReferences : List Cond := Cond.code zyAg_faultOfReferences zbAg_faultOfReferences 2 (some .int) :: gw
abbrev ws_Ag_refersRightly : List Cond := Cond.code zyAg_refersRightly zbAg_refersRightly 3 (some .boolean) :: gw
abbrev ws_Ag_liesOnRound : List Cond := Cond.code zyAg_liesOnRound zbAg_liesOnRound 4 (some .boolean) :: gw
abbrev ws_Cl_init : List Cond := Cond.code zyCl_init zbCl_init 1 none :: gw
abbrev ws_Cl_isOnEvent : List Cond := Cond.code zyCl_isOnEvent zbCl_isOnEvent 3 (some .boolean) :: gw
abbrev ws_Cl_isOn : List Cond := Cond.code zyCl_isOn zbCl_isOn 3 (some .boolean) :: gw
abbrev ws_Cl_isFor : List Cond := Cond.code zyCl_isFor zbCl_isFor 3 (some .boolean) :: gw
abbrev ws_Cl_holds : List Cond := Cond.code zyCl_holds zbCl_holds 2 (some .boolean) :: gw
abbrev ws_Hi_init : List Cond := Cond.code zyHi_init zbHi_init 2 none :: gw
abbrev ws_Hi_keep : List Cond := Cond.code zyHi_keep zbHi_keep 2 none :: gw
abbrev ws_Hi_giveBack : List Cond := Cond.code zyHi_giveBack zbHi_giveBack 2 (some .boolean) :: gw
abbrev ws_Hi_forget : List Cond := Cond.code zyHi_forget zbHi_forget 1 none :: gw
abbrev ws_Ru_init : List Cond := Cond.code zyRu_init zbRu_init 1 none :: gw
abbrev ws_Ru_start : List Cond := Cond.code zyRu_start zbRu_start 4 (some .boolean) :: gw
abbrev ws_Ru_happen : List Cond := Cond.code zyRu_happen zbRu_happen 7 (some .int) :: gw
abbrev ws_Ru_endDay : List Cond := Cond.code zyRu_endDay zbRu_endDay 6 (some .int) :: gw
abbrev ws_Ru_breachBans : List Cond := Cond.code zyRu_breachBans zbRu_breachBans 8 (some .int) :: gw
abbrev ws_Ru_fulfilDuty : List Cond := Cond.code zyRu_fulfilDuty zbRu_fulfilDuty 6 none :: gw
abbrev ws_Ru_awaitAllOn : List Cond := Cond.code zyRu_awaitAllOn zbRu_awaitAllOn 7 none :: gw
abbrev ws_Ru_await : List Cond := Cond.code zyRu_await zbRu_await 2 none :: gw
abbrev ws_Ru_runWaiting : List Cond := Cond.code zyRu_runWaiting zbRu_runWaiting 5 (some .boolean) :: gw
abbrev ws_Ru_act : List Cond := Cond.code zyRu_act zbRu_act 4 (some .boolean) :: gw
abbrev ws_Ru_businessDay : List Cond := Cond.code zyRu_businessDay zbRu_businessDay 5 (some .int) :: gw
abbrev ws_Se_init : List Cond := Cond.code zySe_init zbSe_init 2 none :: gw
abbrev ws_Se_firstCourse : List Cond := Cond.code zySe_firstCourse zbSe_firstCourse 9 (some .int) :: gw
abbrev ws_Se_isKeptByEndOfDay : List Cond := Cond.code zySe_isKeptByEndOfDay zbSe_isKeptByEndOfDay 6 (some .boolean) :: gw
abbrev ws_Se_changes : List Cond := Cond.code zySe_changes zbSe_changes 6 (some .boolean) :: gw
abbrev ws_St_init : List Cond := Cond.code zySt_init zbSt_init 1 none :: gw
abbrev ws_St_debtOf : List Cond := Cond.code zySt_debtOf zbSt_debtOf 3 (some .int) :: gw
abbrev ws_St_addDebt : List Cond := Cond.code zySt_addDebt zbSt_addDebt 5 (some .boolean) :: gw
abbrev ws_St_clear : List Cond := Cond.code zySt_clear zbSt_clear 2 none :: gw
abbrev ws_St_copyFrom : List Cond := Cond.code zySt_copyFrom zbSt_copyFrom 2 none :: gw
abbrev ws_Te_init : List Cond := Cond.code zyTe_init zbTe_init 1 none :: gw
abbrev ws_Te_clauseAt : List Cond := Cond.code zyTe_clauseAt zbTe_clauseAt 2 (some .int) :: gw
abbrev ws_Te_dayAt : List Cond := Cond.code zyTe_dayAt zbTe_dayAt 2 (some .int) :: gw
abbrev ws_Te_add : List Cond := Cond.code zyTe_add zbTe_add 5 (some .boolean) :: gw
abbrev ws_Te_remove : List Cond := Cond.code zyTe_remove zbTe_remove 4 none :: gw
abbrev ws_Te_dropBefore : List Cond := Cond.code zyTe_dropBefore zbTe_dropBefore 3 none :: gw
abbrev ws_Te_countUntil : List Cond := Cond.code zyTe_countUntil zbTe_countUntil 5 (some .int) :: gw
abbrev ws_Te_copyFrom : List Cond := Cond.code zyTe_copyFrom zbTe_copyFrom 2 none :: gw
abbrev ws_Tx_init : List Cond := Cond.code zyTx_init zbTx_init 1 none :: gw
abbrev ws_Tx_put : List Cond := Cond.code zyTx_put zbTx_put 5 (some .boolean) :: gw
abbrev ws_Tx_characterOf : List Cond := Cond.code zyTx_characterOf zbTx_characterOf 3 (some .int) :: gw
abbrev ws_Tx_readInto : List Cond := Cond.code zyTx_readInto zbTx_readInto 3 (some .int) :: gw
abbrev ws_Tx_readClause : List Cond := Cond.code zyTx_readClause zbTx_readClause 2 (some .boolean) :: gw
abbrev ws_Tx_readTrigger : List Cond := Cond.code zyTx_readTrigger zbTx_readTrigger 2 (some .boolean) :: gw
abbrev ws_Tx_readTriggerNumber : List Cond := Cond.code zyTx_readTriggerNumber zbTx_readTriggerNumber 2 (some .boolean) :: gw
abbrev ws_Tx_readCondition : List Cond := Cond.code zyTx_readCondition zbTx_readCondition 2 (some .boolean) :: gw
abbrev ws_Tx_readAction : List Cond := Cond.code zyTx_readAction zbTx_readAction 2 (some .boolean) :: gw
abbrev ws_Tx_readTermSign : List Cond := Cond.code zyTx_readTermSign zbTx_readTermSign 2 (some .boolean) :: gw
abbrev ws_Tx_readTwoParties : List Cond := Cond.code zyTx_readTwoParties zbTx_readTwoParties 1 (some .boolean) :: gw
abbrev ws_Tx_readPartyAndKind : List Cond := Cond.code zyTx_readPartyAndKind zbTx_readPartyAndKind 1 (some .boolean) :: gw
abbrev ws_Tx_readDigit : List Cond := Cond.code zyTx_readDigit zbTx_readDigit 1 (some .boolean) :: gw
abbrev ws_Tx_isNext : List Cond := Cond.code zyTx_isNext zbTx_isNext 2 (some .boolean) :: gw
abbrev ws_Tx_takes : List Cond := Cond.code zyTx_takes zbTx_takes 2 (some .boolean) :: gw
abbrev ws_Tx_takeParty : List Cond := Cond.code zyTx_takeParty zbTx_takeParty 1 (some .int) :: gw
abbrev ws_Tx_takeKind : List Cond := Cond.code zyTx_takeKind zbTx_takeKind 1 (some .int) :: gw
abbrev ws_Tx_takeDigit : List Cond := Cond.code zyTx_takeDigit zbTx_takeDigit 1 (some .int) :: gw
abbrev ws_Tx_takeFrom : List Cond := Cond.code zyTx_takeFrom zbTx_takeFrom 4 (some .int) :: gw
theorem k_0 : (Jvm.Cond.methodLink "PledgeMonitor$Text" (3 : Nat) ({ cls := "java/lang/Object", name := "<init>", desc := "()V" } : Jvm.MethodName)) ∈ gw := gw_at 96 (by decide +kernel) (by decide +kernel)
theorem k_1 : (Jvm.Cond.instanceMethod ({ cls := "java/lang/Object", name := "<init>", desc := "()V" } : Jvm.MethodName)) ∈ gw := gw_at 89 (by decide +kernel) (by decide +kernel)
theorem k_2 : (Jvm.Cond.code ({ cls := "java/lang/Object", name := "<init>", desc := "()V" } : Jvm.MethodName) object_method_1_code (1 : Nat) (Option.none : Option Jvm.ClassFile.FieldType)) ∈ gw := gw_at 90 (by decide +kernel) (by decide +kernel)
theorem k_3 : (Jvm.Cond.arrayClass Jvm.ClassFile.FieldType.char) ∈ gw := gw_at 117 (by decide +kernel) (by decide +kernel)
theorem k_4 : (Jvm.Cond.fieldLink "PledgeMonitor$Text" (9 : Nat) "PledgeMonitor$Text" "characters" "[C") ∈ gw := gw_at 97 (by decide +kernel) (by decide +kernel)
theorem k_5 : (Jvm.Cond.fieldLink "PledgeMonitor$Text" (15 : Nat) "PledgeMonitor$Text" "length" "I") ∈ gw := gw_at 98 (by decide +kernel) (by decide +kernel)
theorem k_6 : (Jvm.Cond.fieldLink "PledgeMonitor$Text" (19 : Nat) "PledgeMonitor$Text" "place" "I") ∈ gw := gw_at 100 (by decide +kernel) (by decide +kernel)
theorem k_7 : (Jvm.Cond.fieldLink "PledgeMonitor$Text" (22 : Nat) "PledgeMonitor$Text" "first" "I") ∈ gw := gw_at 101 (by decide +kernel) (by decide +kernel)
theorem k_8 : (Jvm.Cond.fieldLink "PledgeMonitor$Text" (25 : Nat) "PledgeMonitor$Text" "second" "I") ∈ gw := gw_at 102 (by decide +kernel) (by decide +kernel)
theorem k_9 : (Jvm.Cond.fieldLink "PledgeMonitor$Text" (28 : Nat) "PledgeMonitor$Text" "digit" "I") ∈ gw := gw_at 103 (by decide +kernel) (by decide +kernel)
theorem k_10 : (Jvm.Cond.methodLink "PledgeMonitor$Clause" (3 : Nat) ({ cls := "java/lang/Object", name := "<init>", desc := "()V" } : Jvm.MethodName)) ∈ gw := gw_at 130 (by decide +kernel) (by decide +kernel)
theorem k_11 : (Jvm.Cond.fieldLink "PledgeMonitor$Clause" (9 : Nat) "PledgeMonitor$Clause" "trigger" "I") ∈ gw := gw_at 131 (by decide +kernel) (by decide +kernel)
theorem k_12 : (Jvm.Cond.fieldLink "PledgeMonitor$Clause" (15 : Nat) "PledgeMonitor$Clause" "triggerParty" "I") ∈ gw := gw_at 135 (by decide +kernel) (by decide +kernel)
theorem k_13 : (Jvm.Cond.fieldLink "PledgeMonitor$Clause" (18 : Nat) "PledgeMonitor$Clause" "triggerKind" "I") ∈ gw := gw_at 137 (by decide +kernel) (by decide +kernel)
theorem k_14 : (Jvm.Cond.fieldLink "PledgeMonitor$Clause" (21 : Nat) "PledgeMonitor$Clause" "triggerNumber" "I") ∈ gw := gw_at 139 (by decide +kernel) (by decide +kernel)
theorem k_15 : (Jvm.Cond.fieldLink "PledgeMonitor$Clause" (24 : Nat) "PledgeMonitor$Clause" "conditional" "Z") ∈ gw := gw_at 142 (by decide +kernel) (by decide +kernel)
theorem k_16 : (Jvm.Cond.fieldLink "PledgeMonitor$Clause" (28 : Nat) "PledgeMonitor$Clause" "debtor" "I") ∈ gw := gw_at 144 (by decide +kernel) (by decide +kernel)
theorem k_17 : (Jvm.Cond.fieldLink "PledgeMonitor$Clause" (31 : Nat) "PledgeMonitor$Clause" "creditor" "I") ∈ gw := gw_at 146 (by decide +kernel) (by decide +kernel)
theorem k_18 : (Jvm.Cond.fieldLink "PledgeMonitor$Clause" (34 : Nat) "PledgeMonitor$Clause" "limit" "I") ∈ gw := gw_at 148 (by decide +kernel) (by decide +kernel)
theorem k_19 : (Jvm.Cond.fieldLink "PledgeMonitor$Clause" (37 : Nat) "PledgeMonitor$Clause" "action" "I") ∈ gw := gw_at 150 (by decide +kernel) (by decide +kernel)
theorem k_20 : (Jvm.Cond.fieldLink "PledgeMonitor$Clause" (40 : Nat) "PledgeMonitor$Clause" "party" "I") ∈ gw := gw_at 154 (by decide +kernel) (by decide +kernel)
theorem k_21 : (Jvm.Cond.fieldLink "PledgeMonitor$Clause" (43 : Nat) "PledgeMonitor$Clause" "kind" "I") ∈ gw := gw_at 158 (by decide +kernel) (by decide +kernel)
theorem k_22 : (Jvm.Cond.fieldLink "PledgeMonitor$Clause" (46 : Nat) "PledgeMonitor$Clause" "otherParty" "I") ∈ gw := gw_at 160 (by decide +kernel) (by decide +kernel)
theorem k_23 : (Jvm.Cond.fieldLink "PledgeMonitor$Clause" (49 : Nat) "PledgeMonitor$Clause" "digit" "I") ∈ gw := gw_at 163 (by decide +kernel) (by decide +kernel)
theorem k_24 : (Jvm.Cond.methodLink "PledgeMonitor$Agreement" (3 : Nat) ({ cls := "java/lang/Object", name := "<init>", desc := "()V" } : Jvm.MethodName)) ∈ gw := gw_at 123 (by decide +kernel) (by decide +kernel)
theorem k_25 : (Jvm.Cond.classLink "PledgeMonitor$Agreement" (9 : Nat) "PledgeMonitor$Clause") ∈ gw := gw_at 124 (by decide +kernel) (by decide +kernel)
theorem k_26 : (Jvm.Cond.fieldLink "PledgeMonitor$Agreement" (11 : Nat) "PledgeMonitor$Agreement" "clauses" "[LPledgeMonitor$Clause;") ∈ gw := gw_at 194 (by decide +kernel) (by decide +kernel)
theorem k_27 : (Jvm.Cond.fieldLink "PledgeMonitor$Agreement" (17 : Nat) "PledgeMonitor$Agreement" "size" "I") ∈ gw := gw_at 197 (by decide +kernel) (by decide +kernel)
theorem k_28 : (Jvm.Cond.instantiable "PledgeMonitor$Clause" (13 : Nat)) ∈ gw := gw_at 126 (by decide +kernel) (by decide +kernel)
theorem k_29 : (Jvm.Cond.initialized "PledgeMonitor$Clause") ∈ gw := gw_at 68 (by decide +kernel) (by decide +kernel)
theorem k_30 : (Jvm.Cond.instanceMethod ({ cls := "PledgeMonitor$Clause", name := "<init>", desc := "()V" } : Jvm.MethodName)) ∈ gw := gw_at 128 (by decide +kernel) (by decide +kernel)
theorem k_31 : (Jvm.Cond.code ({ cls := "PledgeMonitor$Clause", name := "<init>", desc := "()V" } : Jvm.MethodName) prog_3_method_1_code (1 : Nat) (Option.none : Option Jvm.ClassFile.FieldType)) ∈ gw := gw_at 129 (by decide +kernel) (by decide +kernel)
theorem k_32 : (Jvm.Cond.methodLink "PledgeMonitor$Terms" (3 : Nat) ({ cls := "java/lang/Object", name := "<init>", desc := "()V" } : Jvm.MethodName)) ∈ gw := gw_at 217 (by decide +kernel) (by decide +kernel)
theorem k_33 : (Jvm.Cond.arrayClass Jvm.ClassFile.FieldType.int) ∈ gw := gw_at 229 (by decide +kernel) (by decide +kernel)
theorem k_34 : (Jvm.Cond.fieldLink "PledgeMonitor$Terms" (9 : Nat) "PledgeMonitor$Terms" "rows" "[I") ∈ gw := gw_at 218 (by decide +kernel) (by decide +kernel)
theorem k_35 : (Jvm.Cond.fieldLink "PledgeMonitor$Terms" (15 : Nat) "PledgeMonitor$Terms" "size" "I") ∈ gw := gw_at 220 (by decide +kernel) (by decide +kernel)
theorem k_36 : (Jvm.Cond.methodLink "PledgeMonitor$State" (3 : Nat) ({ cls := "java/lang/Object", name := "<init>", desc := "()V" } : Jvm.MethodName)) ∈ gw := gw_at 211 (by decide +kernel) (by decide +kernel)
theorem k_37 : (Jvm.Cond.fieldLink "PledgeMonitor$State" (9 : Nat) "PledgeMonitor$State" "day" "I") ∈ gw := gw_at 230 (by decide +kernel) (by decide +kernel)
theorem k_38 : (Jvm.Cond.classLink "PledgeMonitor$State" (15 : Nat) "PledgeMonitor$Terms") ∈ gw := gw_at 212 (by decide +kernel) (by decide +kernel)
theorem k_39 : (Jvm.Cond.instantiable "PledgeMonitor$Terms" (2 : Nat)) ∈ gw := gw_at 213 (by decide +kernel) (by decide +kernel)
theorem k_40 : (Jvm.Cond.initialized "PledgeMonitor$Terms") ∈ gw := gw_at 70 (by decide +kernel) (by decide +kernel)
theorem k_41 : (Jvm.Cond.instanceMethod ({ cls := "PledgeMonitor$Terms", name := "<init>", desc := "()V" } : Jvm.MethodName)) ∈ gw := gw_at 215 (by decide +kernel) (by decide +kernel)
theorem k_42 : (Jvm.Cond.code ({ cls := "PledgeMonitor$Terms", name := "<init>", desc := "()V" } : Jvm.MethodName) prog_8_method_1_code (1 : Nat) (Option.none : Option Jvm.ClassFile.FieldType)) ∈ gw := gw_at 216 (by decide +kernel) (by decide +kernel)
theorem k_43 : (Jvm.Cond.fieldLink "PledgeMonitor$State" (18 : Nat) "PledgeMonitor$State" "duties" "LPledgeMonitor$Terms;") ∈ gw := gw_at 234 (by decide +kernel) (by decide +kernel)
theorem k_44 : (Jvm.Cond.fieldLink "PledgeMonitor$State" (22 : Nat) "PledgeMonitor$State" "bans" "LPledgeMonitor$Terms;") ∈ gw := gw_at 238 (by decide +kernel) (by decide +kernel)
theorem k_45 : (Jvm.Cond.fieldLink "PledgeMonitor$State" (25 : Nat) "PledgeMonitor$State" "powers" "LPledgeMonitor$Terms;") ∈ gw := gw_at 242 (by decide +kernel) (by decide +kernel)
theorem k_46 : (Jvm.Cond.fieldLink "PledgeMonitor$State" (28 : Nat) "PledgeMonitor$State" "debts" "[I") ∈ gw := gw_at 245 (by decide +kernel) (by decide +kernel)
theorem k_47 : (Jvm.Cond.fieldLink "PledgeMonitor$State" (32 : Nat) "PledgeMonitor$State" "breachCounts" "[I") ∈ gw := gw_at 246 (by decide +kernel) (by decide +kernel)
theorem k_48 : (Jvm.Cond.methodLink "PledgeMonitor$History" (3 : Nat) ({ cls := "java/lang/Object", name := "<init>", desc := "()V" } : Jvm.MethodName)) ∈ gw := gw_at 267 (by decide +kernel) (by decide +kernel)
theorem k_49 : (Jvm.Cond.classLink "PledgeMonitor$History" (9 : Nat) "PledgeMonitor$State") ∈ gw := gw_at 268 (by decide +kernel) (by decide +kernel)
theorem k_50 : (Jvm.Cond.fieldLink "PledgeMonitor$History" (11 : Nat) "PledgeMonitor$History" "kept" "[LPledgeMonitor$State;") ∈ gw := gw_at 271 (by decide +kernel) (by decide +kernel)
theorem k_51 : (Jvm.Cond.fieldLink "PledgeMonitor$History" (17 : Nat) "PledgeMonitor$History" "size" "I") ∈ gw := gw_at 272 (by decide +kernel) (by decide +kernel)
theorem k_52 : (Jvm.Cond.fieldLink "PledgeMonitor$History" (21 : Nat) "PledgeMonitor$History" "next" "I") ∈ gw := gw_at 273 (by decide +kernel) (by decide +kernel)
theorem k_53 : (Jvm.Cond.instantiable "PledgeMonitor$State" (6 : Nat)) ∈ gw := gw_at 207 (by decide +kernel) (by decide +kernel)
theorem k_54 : (Jvm.Cond.initialized "PledgeMonitor$State") ∈ gw := gw_at 69 (by decide +kernel) (by decide +kernel)
theorem k_55 : (Jvm.Cond.instanceMethod ({ cls := "PledgeMonitor$State", name := "<init>", desc := "()V" } : Jvm.MethodName)) ∈ gw := gw_at 209 (by decide +kernel) (by decide +kernel)
theorem k_56 : (Jvm.Cond.code ({ cls := "PledgeMonitor$State", name := "<init>", desc := "()V" } : Jvm.MethodName) prog_7_method_1_code (1 : Nat) (Option.none : Option Jvm.ClassFile.FieldType)) ∈ gw := gw_at 210 (by decide +kernel) (by decide +kernel)
theorem k_57 : (Jvm.Cond.methodLink "PledgeMonitor$Runner" (3 : Nat) ({ cls := "java/lang/Object", name := "<init>", desc := "()V" } : Jvm.MethodName)) ∈ gw := gw_at 292 (by decide +kernel) (by decide +kernel)
theorem k_58 : (Jvm.Cond.arrayClass Jvm.ClassFile.FieldType.boolean) ∈ gw := gw_at 304 (by decide +kernel) (by decide +kernel)
theorem k_59 : (Jvm.Cond.fieldLink "PledgeMonitor$Runner" (9 : Nat) "PledgeMonitor$Runner" "freeDays" "[Z") ∈ gw := gw_at 293 (by decide +kernel) (by decide +kernel)
theorem k_60 : (Jvm.Cond.fieldLink "PledgeMonitor$Runner" (15 : Nat) "PledgeMonitor$Runner" "waiting" "[I") ∈ gw := gw_at 295 (by decide +kernel) (by decide +kernel)
theorem k_61 : (Jvm.Cond.fieldLink "PledgeMonitor$Runner" (19 : Nat) "PledgeMonitor$Runner" "waitingSize" "I") ∈ gw := gw_at 296 (by decide +kernel) (by decide +kernel)
theorem k_62 : (Jvm.Cond.methodLink "PledgeMonitor$Search" (3 : Nat) ({ cls := "java/lang/Object", name := "<init>", desc := "()V" } : Jvm.MethodName)) ∈ gw := gw_at 286 (by decide +kernel) (by decide +kernel)
theorem k_63 : (Jvm.Cond.classLink "PledgeMonitor$Search" (9 : Nat) "PledgeMonitor$Runner") ∈ gw := gw_at 287 (by decide +kernel) (by decide +kernel)
theorem k_64 : (Jvm.Cond.instantiable "PledgeMonitor$Runner" (3 : Nat)) ∈ gw := gw_at 288 (by decide +kernel) (by decide +kernel)
theorem k_65 : (Jvm.Cond.initialized "PledgeMonitor$Runner") ∈ gw := gw_at 73 (by decide +kernel) (by decide +kernel)
theorem k_66 : (Jvm.Cond.instanceMethod ({ cls := "PledgeMonitor$Runner", name := "<init>", desc := "()V" } : Jvm.MethodName)) ∈ gw := gw_at 290 (by decide +kernel) (by decide +kernel)
theorem k_67 : (Jvm.Cond.code ({ cls := "PledgeMonitor$Runner", name := "<init>", desc := "()V" } : Jvm.MethodName) prog_5_method_1_code (1 : Nat) (Option.none : Option Jvm.ClassFile.FieldType)) ∈ gw := gw_at 291 (by decide +kernel) (by decide +kernel)
theorem k_68 : (Jvm.Cond.fieldLink "PledgeMonitor$Search" (12 : Nat) "PledgeMonitor$Search" "runner" "LPledgeMonitor$Runner;") ∈ gw := gw_at 307 (by decide +kernel) (by decide +kernel)
theorem k_69 : (Jvm.Cond.classLink "PledgeMonitor$Search" (18 : Nat) "PledgeMonitor$State") ∈ gw := gw_at 305 (by decide +kernel) (by decide +kernel)
theorem k_70 : (Jvm.Cond.fieldLink "PledgeMonitor$Search" (20 : Nat) "PledgeMonitor$Search" "afterOne" "[LPledgeMonitor$State;") ∈ gw := gw_at 309 (by decide +kernel) (by decide +kernel)
theorem k_71 : (Jvm.Cond.fieldLink "PledgeMonitor$Search" (24 : Nat) "PledgeMonitor$Search" "afterTwo" "[LPledgeMonitor$State;") ∈ gw := gw_at 310 (by decide +kernel) (by decide +kernel)
theorem k_72 : (Jvm.Cond.fieldLink "PledgeMonitor$Search" (27 : Nat) "PledgeMonitor$Search" "afterDay" "[LPledgeMonitor$State;") ∈ gw := gw_at 311 (by decide +kernel) (by decide +kernel)
theorem k_73 : (Jvm.Cond.methodLink "PledgeMonitor" (1 : Nat) ({ cls := "java/lang/Object", name := "<init>", desc := "()V" } : Jvm.MethodName)) ∈ gw := gw_at 88 (by decide +kernel) (by decide +kernel)
theorem k_74 : (Jvm.Cond.classLink "PledgeMonitor" (7 : Nat) "PledgeMonitor$Text") ∈ gw := gw_at 91 (by decide +kernel) (by decide +kernel)
theorem k_75 : (Jvm.Cond.instantiable "PledgeMonitor$Text" (6 : Nat)) ∈ gw := gw_at 92 (by decide +kernel) (by decide +kernel)
theorem k_76 : (Jvm.Cond.initialized "PledgeMonitor$Text") ∈ gw := gw_at 66 (by decide +kernel) (by decide +kernel)
theorem k_77 : (Jvm.Cond.instanceMethod ({ cls := "PledgeMonitor$Text", name := "<init>", desc := "()V" } : Jvm.MethodName)) ∈ gw := gw_at 94 (by decide +kernel) (by decide +kernel)
theorem k_78 : (Jvm.Cond.code ({ cls := "PledgeMonitor$Text", name := "<init>", desc := "()V" } : Jvm.MethodName) prog_9_method_1_code (1 : Nat) (Option.none : Option Jvm.ClassFile.FieldType)) ∈ gw := gw_at 95 (by decide +kernel) (by decide +kernel)
theorem k_79 : (Jvm.Cond.fieldLink "PledgeMonitor" (10 : Nat) "PledgeMonitor" "text" "LPledgeMonitor$Text;") ∈ gw := gw_at 321 (by decide +kernel) (by decide +kernel)
theorem k_80 : (Jvm.Cond.fieldLink "PledgeMonitor" (16 : Nat) "PledgeMonitor" "foundFault" "I") ∈ gw := gw_at 322 (by decide +kernel) (by decide +kernel)
theorem k_81 : (Jvm.Cond.fieldLink "PledgeMonitor" (20 : Nat) "PledgeMonitor" "running" "Z") ∈ gw := gw_at 323 (by decide +kernel) (by decide +kernel)
theorem k_82 : (Jvm.Cond.classLink "PledgeMonitor" (24 : Nat) "PledgeMonitor$Agreement") ∈ gw := gw_at 118 (by decide +kernel) (by decide +kernel)
theorem k_83 : (Jvm.Cond.instantiable "PledgeMonitor$Agreement" (2 : Nat)) ∈ gw := gw_at 119 (by decide +kernel) (by decide +kernel)
theorem k_84 : (Jvm.Cond.initialized "PledgeMonitor$Agreement") ∈ gw := gw_at 67 (by decide +kernel) (by decide +kernel)
theorem k_85 : (Jvm.Cond.instanceMethod ({ cls := "PledgeMonitor$Agreement", name := "<init>", desc := "()V" } : Jvm.MethodName)) ∈ gw := gw_at 121 (by decide +kernel) (by decide +kernel)
theorem k_86 : (Jvm.Cond.methodLink "PledgeMonitor" (26 : Nat) ({ cls := "PledgeMonitor$Agreement", name := "<init>", desc := "()V" } : Jvm.MethodName)) ∈ gw := gw_at 120 (by decide +kernel) (by decide +kernel)
theorem k_87 : (Jvm.Cond.code ({ cls := "PledgeMonitor$Agreement", name := "<init>", desc := "()V" } : Jvm.MethodName) prog_2_method_1_code (2 : Nat) (Option.none : Option Jvm.ClassFile.FieldType)) ∈ gw := gw_at 122 (by decide +kernel) (by decide +kernel)
theorem k_88 : (Jvm.Cond.fieldLink "PledgeMonitor" (27 : Nat) "PledgeMonitor" "agreement" "LPledgeMonitor$Agreement;") ∈ gw := gw_at 324 (by decide +kernel) (by decide +kernel)
theorem k_89 : (Jvm.Cond.fieldLink "PledgeMonitor" (31 : Nat) "PledgeMonitor" "draft" "LPledgeMonitor$Agreement;") ∈ gw := gw_at 325 (by decide +kernel) (by decide +kernel)
theorem k_90 : (Jvm.Cond.classLink "PledgeMonitor" (34 : Nat) "PledgeMonitor$State") ∈ gw := gw_at 206 (by decide +kernel) (by decide +kernel)
theorem k_91 : (Jvm.Cond.fieldLink "PledgeMonitor" (37 : Nat) "PledgeMonitor" "state" "LPledgeMonitor$State;") ∈ gw := gw_at 326 (by decide +kernel) (by decide +kernel)
theorem k_92 : (Jvm.Cond.fieldLink "PledgeMonitor" (41 : Nat) "PledgeMonitor" "trial" "LPledgeMonitor$State;") ∈ gw := gw_at 327 (by decide +kernel) (by decide +kernel)
theorem k_93 : (Jvm.Cond.classLink "PledgeMonitor" (44 : Nat) "PledgeMonitor$History") ∈ gw := gw_at 262 (by decide +kernel) (by decide +kernel)
theorem k_94 : (Jvm.Cond.instantiable "PledgeMonitor$History" (3 : Nat)) ∈ gw := gw_at 263 (by decide +kernel) (by decide +kernel)
theorem k_95 : (Jvm.Cond.initialized "PledgeMonitor$History") ∈ gw := gw_at 71 (by decide +kernel) (by decide +kernel)
theorem k_96 : (Jvm.Cond.instanceMethod ({ cls := "PledgeMonitor$History", name := "<init>", desc := "()V" } : Jvm.MethodName)) ∈ gw := gw_at 265 (by decide +kernel) (by decide +kernel)
theorem k_97 : (Jvm.Cond.methodLink "PledgeMonitor" (46 : Nat) ({ cls := "PledgeMonitor$History", name := "<init>", desc := "()V" } : Jvm.MethodName)) ∈ gw := gw_at 264 (by decide +kernel) (by decide +kernel)
theorem k_98 : (Jvm.Cond.code ({ cls := "PledgeMonitor$History", name := "<init>", desc := "()V" } : Jvm.MethodName) prog_4_method_1_code (2 : Nat) (Option.none : Option Jvm.ClassFile.FieldType)) ∈ gw := gw_at 266 (by decide +kernel) (by decide +kernel)
theorem k_99 : (Jvm.Cond.fieldLink "PledgeMonitor" (47 : Nat) "PledgeMonitor" "history" "LPledgeMonitor$History;") ∈ gw := gw_at 328 (by decide +kernel) (by decide +kernel)
theorem k_100 : (Jvm.Cond.classLink "PledgeMonitor" (51 : Nat) "PledgeMonitor$Search") ∈ gw := gw_at 281 (by decide +kernel) (by decide +kernel)
theorem k_101 : (Jvm.Cond.instantiable "PledgeMonitor$Search" (4 : Nat)) ∈ gw := gw_at 282 (by decide +kernel) (by decide +kernel)
theorem k_102 : (Jvm.Cond.initialized "PledgeMonitor$Search") ∈ gw := gw_at 72 (by decide +kernel) (by decide +kernel)
theorem k_103 : (Jvm.Cond.instanceMethod ({ cls := "PledgeMonitor$Search", name := "<init>", desc := "()V" } : Jvm.MethodName)) ∈ gw := gw_at 284 (by decide +kernel) (by decide +kernel)
theorem k_104 : (Jvm.Cond.methodLink "PledgeMonitor" (53 : Nat) ({ cls := "PledgeMonitor$Search", name := "<init>", desc := "()V" } : Jvm.MethodName)) ∈ gw := gw_at 283 (by decide +kernel) (by decide +kernel)
theorem k_105 : (Jvm.Cond.code ({ cls := "PledgeMonitor$Search", name := "<init>", desc := "()V" } : Jvm.MethodName) prog_6_method_1_code (2 : Nat) (Option.none : Option Jvm.ClassFile.FieldType)) ∈ gw := gw_at 285 (by decide +kernel) (by decide +kernel)
theorem k_106 : (Jvm.Cond.fieldLink "PledgeMonitor" (54 : Nat) "PledgeMonitor" "search" "LPledgeMonitor$Search;") ∈ gw := gw_at 329 (by decide +kernel) (by decide +kernel)
theorem k_107 : (Jvm.Cond.fieldLink "PledgeMonitor" (58 : Nat) "PledgeMonitor$Search" "runner" "LPledgeMonitor$Runner;") ∈ gw := gw_at 308 (by decide +kernel) (by decide +kernel)
theorem k_108 : (Jvm.Cond.fieldLink "PledgeMonitor" (62 : Nat) "PledgeMonitor" "runner" "LPledgeMonitor$Runner;") ∈ gw := gw_at 330 (by decide +kernel) (by decide +kernel)
theorem k_109 : (Jvm.Cond.methodLink "PledgeMonitor$Text" (31 : Nat) ({ cls := "PledgeMonitor$Text", name := "characterOf", desc := "(JI)I" } : Jvm.MethodName)) ∈ gw := gw_at 360 (by decide +kernel) (by decide +kernel)
theorem k_110 : (Jvm.Cond.static ({ cls := "PledgeMonitor$Text", name := "characterOf", desc := "(JI)I" } : Jvm.MethodName)) ∈ gw := gw_at 361 (by decide +kernel) (by decide +kernel)
theorem k_111 : (Jvm.Cond.code ({ cls := "PledgeMonitor$Text", name := "characterOf", desc := "(JI)I" } : Jvm.MethodName) prog_9_method_3_code (3 : Nat) (Option.some Jvm.ClassFile.FieldType.int)) ∈ gw := gw_at 362 (by decide +kernel) (by decide +kernel)
theorem k_112 : (Jvm.Cond.methodLink "PledgeMonitor" (63 : Nat) ({ cls := "PledgeMonitor$Text", name := "put", desc := "(J)Z" } : Jvm.MethodName)) ∈ gw := gw_at 356 (by decide +kernel) (by decide +kernel)
theorem k_113 : (Jvm.Cond.instanceMethod ({ cls := "PledgeMonitor$Text", name := "put", desc := "(J)Z" } : Jvm.MethodName)) ∈ gw := gw_at 357 (by decide +kernel) (by decide +kernel)
theorem k_114 : (Jvm.Cond.selects "PledgeMonitor$Text" ({ cls := "PledgeMonitor$Text", name := "put", desc := "(J)Z" } : Jvm.MethodName) ({ cls := "PledgeMonitor$Text", name := "put", desc := "(J)Z" } : Jvm.MethodName)) ∈ gw := gw_at 358 (by decide +kernel) (by decide +kernel)
theorem k_115 : (Jvm.Cond.code ({ cls := "PledgeMonitor$Text", name := "put", desc := "(J)Z" } : Jvm.MethodName) prog_9_method_2_code (5 : Nat) (Option.some Jvm.ClassFile.FieldType.boolean)) ∈ gw := gw_at 359 (by decide +kernel) (by decide +kernel)
theorem k_116 : (Jvm.Cond.fieldLink "PledgeMonitor" (67 : Nat) "PledgeMonitor$Text" "length" "I") ∈ gw := gw_at 99 (by decide +kernel) (by decide +kernel)
theorem k_117 : (Jvm.Cond.fieldLink "PledgeMonitor" (70 : Nat) "PledgeMonitor$Runner" "freeDays" "[Z") ∈ gw := gw_at 294 (by decide +kernel) (by decide +kernel)
theorem k_118 : (Jvm.Cond.methodLink "PledgeMonitor$Text" (130 : Nat) ({ cls := "PledgeMonitor$Text", name := "isNext", desc := "(C)Z" } : Jvm.MethodName)) ∈ gw := gw_at 474 (by decide +kernel) (by decide +kernel)
theorem k_119 : (Jvm.Cond.instanceMethod ({ cls := "PledgeMonitor$Text", name := "isNext", desc := "(C)Z" } : Jvm.MethodName)) ∈ gw := gw_at 476 (by decide +kernel) (by decide +kernel)
theorem k_120 : (Jvm.Cond.selects "PledgeMonitor$Text" ({ cls := "PledgeMonitor$Text", name := "isNext", desc := "(C)Z" } : Jvm.MethodName) ({ cls := "PledgeMonitor$Text", name := "isNext", desc := "(C)Z" } : Jvm.MethodName)) ∈ gw := gw_at 3 (by decide +kernel) (by decide +kernel)
theorem k_121 : (Jvm.Cond.code ({ cls := "PledgeMonitor$Text", name := "isNext", desc := "(C)Z" } : Jvm.MethodName) prog_9_method_14_code (2 : Nat) (Option.some Jvm.ClassFile.FieldType.boolean)) ∈ gw := gw_at 477 (by decide +kernel) (by decide +kernel)
theorem k_122 : (Jvm.Cond.methodLink "PledgeMonitor$Text" (133 : Nat) ({ cls := "PledgeMonitor$Text", name := "takeFrom", desc := "(CI)I" } : Jvm.MethodName)) ∈ gw := gw_at 486 (by decide +kernel) (by decide +kernel)
theorem k_123 : (Jvm.Cond.instanceMethod ({ cls := "PledgeMonitor$Text", name := "takeFrom", desc := "(CI)I" } : Jvm.MethodName)) ∈ gw := gw_at 488 (by decide +kernel) (by decide +kernel)
theorem k_124 : (Jvm.Cond.selects "PledgeMonitor$Text" ({ cls := "PledgeMonitor$Text", name := "takeFrom", desc := "(CI)I" } : Jvm.MethodName) ({ cls := "PledgeMonitor$Text", name := "takeFrom", desc := "(CI)I" } : Jvm.MethodName)) ∈ gw := gw_at 6 (by decide +kernel) (by decide +kernel)
theorem k_125 : (Jvm.Cond.code ({ cls := "PledgeMonitor$Text", name := "takeFrom", desc := "(CI)I" } : Jvm.MethodName) prog_9_method_19_code (4 : Nat) (Option.some Jvm.ClassFile.FieldType.int)) ∈ gw := gw_at 489 (by decide +kernel) (by decide +kernel)
theorem k_126 : (Jvm.Cond.methodLink "PledgeMonitor$Text" (85 : Nat) ({ cls := "PledgeMonitor$Text", name := "takeDigit", desc := "()I" } : Jvm.MethodName)) ∈ gw := gw_at 482 (by decide +kernel) (by decide +kernel)
theorem k_127 : (Jvm.Cond.instanceMethod ({ cls := "PledgeMonitor$Text", name := "takeDigit", desc := "()I" } : Jvm.MethodName)) ∈ gw := gw_at 484 (by decide +kernel) (by decide +kernel)
theorem k_128 : (Jvm.Cond.selects "PledgeMonitor$Text" ({ cls := "PledgeMonitor$Text", name := "takeDigit", desc := "()I" } : Jvm.MethodName) ({ cls := "PledgeMonitor$Text", name := "takeDigit", desc := "()I" } : Jvm.MethodName)) ∈ gw := gw_at 5 (by decide +kernel) (by decide +kernel)
theorem k_129 : (Jvm.Cond.code ({ cls := "PledgeMonitor$Text", name := "takeDigit", desc := "()I" } : Jvm.MethodName) prog_9_method_18_code (1 : Nat) (Option.some Jvm.ClassFile.FieldType.int)) ∈ gw := gw_at 485 (by decide +kernel) (by decide +kernel)
theorem k_130 : (Jvm.Cond.fieldLink "PledgeMonitor$Text" (88 : Nat) "PledgeMonitor$Clause" "triggerNumber" "I") ∈ gw := gw_at 141 (by decide +kernel) (by decide +kernel)
theorem k_131 : (Jvm.Cond.methodLink "PledgeMonitor$Text" (52 : Nat) ({ cls := "PledgeMonitor$Text", name := "takes", desc := "(C)Z" } : Jvm.MethodName)) ∈ gw := gw_at 470 (by decide +kernel) (by decide +kernel)
theorem k_132 : (Jvm.Cond.instanceMethod ({ cls := "PledgeMonitor$Text", name := "takes", desc := "(C)Z" } : Jvm.MethodName)) ∈ gw := gw_at 472 (by decide +kernel) (by decide +kernel)
theorem k_133 : (Jvm.Cond.selects "PledgeMonitor$Text" ({ cls := "PledgeMonitor$Text", name := "takes", desc := "(C)Z" } : Jvm.MethodName) ({ cls := "PledgeMonitor$Text", name := "takes", desc := "(C)Z" } : Jvm.MethodName)) ∈ gw := gw_at 2 (by decide +kernel) (by decide +kernel)
theorem k_134 : (Jvm.Cond.code ({ cls := "PledgeMonitor$Text", name := "takes", desc := "(C)Z" } : Jvm.MethodName) prog_9_method_15_code (2 : Nat) (Option.some Jvm.ClassFile.FieldType.boolean)) ∈ gw := gw_at 473 (by decide +kernel) (by decide +kernel)
theorem k_135 : (Jvm.Cond.fieldLink "PledgeMonitor$Text" (65 : Nat) "PledgeMonitor$Clause" "trigger" "I") ∈ gw := gw_at 133 (by decide +kernel) (by decide +kernel)
theorem k_136 : (Jvm.Cond.methodLink "PledgeMonitor$Text" (73 : Nat) ({ cls := "PledgeMonitor$Text", name := "takeParty", desc := "()I" } : Jvm.MethodName)) ∈ gw := gw_at 490 (by decide +kernel) (by decide +kernel)
theorem k_137 : (Jvm.Cond.instanceMethod ({ cls := "PledgeMonitor$Text", name := "takeParty", desc := "()I" } : Jvm.MethodName)) ∈ gw := gw_at 492 (by decide +kernel) (by decide +kernel)
theorem k_138 : (Jvm.Cond.selects "PledgeMonitor$Text" ({ cls := "PledgeMonitor$Text", name := "takeParty", desc := "()I" } : Jvm.MethodName) ({ cls := "PledgeMonitor$Text", name := "takeParty", desc := "()I" } : Jvm.MethodName)) ∈ gw := gw_at 7 (by decide +kernel) (by decide +kernel)
theorem k_139 : (Jvm.Cond.code ({ cls := "PledgeMonitor$Text", name := "takeParty", desc := "()I" } : Jvm.MethodName) prog_9_method_16_code (1 : Nat) (Option.some Jvm.ClassFile.FieldType.int)) ∈ gw := gw_at 493 (by decide +kernel) (by decide +kernel)
theorem k_140 : (Jvm.Cond.fieldLink "PledgeMonitor$Text" (76 : Nat) "PledgeMonitor$Clause" "triggerParty" "I") ∈ gw := gw_at 136 (by decide +kernel) (by decide +kernel)
theorem k_141 : (Jvm.Cond.methodLink "PledgeMonitor$Text" (79 : Nat) ({ cls := "PledgeMonitor$Text", name := "takeKind", desc := "()I" } : Jvm.MethodName)) ∈ gw := gw_at 494 (by decide +kernel) (by decide +kernel)
theorem k_142 : (Jvm.Cond.instanceMethod ({ cls := "PledgeMonitor$Text", name := "takeKind", desc := "()I" } : Jvm.MethodName)) ∈ gw := gw_at 496 (by decide +kernel) (by decide +kernel)
theorem k_143 : (Jvm.Cond.selects "PledgeMonitor$Text" ({ cls := "PledgeMonitor$Text", name := "takeKind", desc := "()I" } : Jvm.MethodName) ({ cls := "PledgeMonitor$Text", name := "takeKind", desc := "()I" } : Jvm.MethodName)) ∈ gw := gw_at 8 (by decide +kernel) (by decide +kernel)
theorem k_144 : (Jvm.Cond.code ({ cls := "PledgeMonitor$Text", name := "takeKind", desc := "()I" } : Jvm.MethodName) prog_9_method_17_code (1 : Nat) (Option.some Jvm.ClassFile.FieldType.int)) ∈ gw := gw_at 497 (by decide +kernel) (by decide +kernel)
theorem k_145 : (Jvm.Cond.fieldLink "PledgeMonitor$Text" (82 : Nat) "PledgeMonitor$Clause" "triggerKind" "I") ∈ gw := gw_at 138 (by decide +kernel) (by decide +kernel)
theorem k_146 : (Jvm.Cond.methodLink "PledgeMonitor$Text" (70 : Nat) ({ cls := "PledgeMonitor$Text", name := "readTriggerNumber", desc := "(LPledgeMonitor$Clause;)Z" } : Jvm.MethodName)) ∈ gw := gw_at 478 (by decide +kernel) (by decide +kernel)
theorem k_147 : (Jvm.Cond.instanceMethod ({ cls := "PledgeMonitor$Text", name := "readTriggerNumber", desc := "(LPledgeMonitor$Clause;)Z" } : Jvm.MethodName)) ∈ gw := gw_at 480 (by decide +kernel) (by decide +kernel)
theorem k_148 : (Jvm.Cond.selects "PledgeMonitor$Text" ({ cls := "PledgeMonitor$Text", name := "readTriggerNumber", desc := "(LPledgeMonitor$Clause;)Z" } : Jvm.MethodName) ({ cls := "PledgeMonitor$Text", name := "readTriggerNumber", desc := "(LPledgeMonitor$Clause;)Z" } : Jvm.MethodName)) ∈ gw := gw_at 4 (by decide +kernel) (by decide +kernel)
theorem k_149 : (Jvm.Cond.code ({ cls := "PledgeMonitor$Text", name := "readTriggerNumber", desc := "(LPledgeMonitor$Clause;)Z" } : Jvm.MethodName) prog_9_method_7_code (2 : Nat) (Option.some Jvm.ClassFile.FieldType.boolean)) ∈ gw := gw_at 481 (by decide +kernel) (by decide +kernel)
theorem k_150 : (Jvm.Cond.fieldLink "PledgeMonitor$Text" (91 : Nat) "PledgeMonitor$Clause" "conditional" "Z") ∈ gw := gw_at 143 (by decide +kernel) (by decide +kernel)
theorem k_151 : (Jvm.Cond.methodLink "PledgeMonitor$Text" (95 : Nat) ({ cls := "PledgeMonitor$Text", name := "readTwoParties", desc := "()Z" } : Jvm.MethodName)) ∈ gw := gw_at 502 (by decide +kernel) (by decide +kernel)
theorem k_152 : (Jvm.Cond.instanceMethod ({ cls := "PledgeMonitor$Text", name := "readTwoParties", desc := "()Z" } : Jvm.MethodName)) ∈ gw := gw_at 504 (by decide +kernel) (by decide +kernel)
theorem k_153 : (Jvm.Cond.selects "PledgeMonitor$Text" ({ cls := "PledgeMonitor$Text", name := "readTwoParties", desc := "()Z" } : Jvm.MethodName) ({ cls := "PledgeMonitor$Text", name := "readTwoParties", desc := "()Z" } : Jvm.MethodName)) ∈ gw := gw_at 10 (by decide +kernel) (by decide +kernel)
theorem k_154 : (Jvm.Cond.code ({ cls := "PledgeMonitor$Text", name := "readTwoParties", desc := "()Z" } : Jvm.MethodName) prog_9_method_11_code (1 : Nat) (Option.some Jvm.ClassFile.FieldType.boolean)) ∈ gw := gw_at 505 (by decide +kernel) (by decide +kernel)
theorem k_155 : (Jvm.Cond.methodLink "PledgeMonitor$Text" (99 : Nat) ({ cls := "PledgeMonitor$Text", name := "readDigit", desc := "()Z" } : Jvm.MethodName)) ∈ gw := gw_at 506 (by decide +kernel) (by decide +kernel)
theorem k_156 : (Jvm.Cond.instanceMethod ({ cls := "PledgeMonitor$Text", name := "readDigit", desc := "()Z" } : Jvm.MethodName)) ∈ gw := gw_at 508 (by decide +kernel) (by decide +kernel)
theorem k_157 : (Jvm.Cond.selects "PledgeMonitor$Text" ({ cls := "PledgeMonitor$Text", name := "readDigit", desc := "()Z" } : Jvm.MethodName) ({ cls := "PledgeMonitor$Text", name := "readDigit", desc := "()Z" } : Jvm.MethodName)) ∈ gw := gw_at 11 (by decide +kernel) (by decide +kernel)
theorem k_158 : (Jvm.Cond.code ({ cls := "PledgeMonitor$Text", name := "readDigit", desc := "()Z" } : Jvm.MethodName) prog_9_method_13_code (1 : Nat) (Option.some Jvm.ClassFile.FieldType.boolean)) ∈ gw := gw_at 509 (by decide +kernel) (by decide +kernel)
theorem k_159 : (Jvm.Cond.fieldLink "PledgeMonitor$Text" (102 : Nat) "PledgeMonitor$Clause" "debtor" "I") ∈ gw := gw_at 145 (by decide +kernel) (by decide +kernel)
theorem k_160 : (Jvm.Cond.fieldLink "PledgeMonitor$Text" (105 : Nat) "PledgeMonitor$Clause" "creditor" "I") ∈ gw := gw_at 147 (by decide +kernel) (by decide +kernel)
theorem k_161 : (Jvm.Cond.fieldLink "PledgeMonitor$Text" (108 : Nat) "PledgeMonitor$Clause" "limit" "I") ∈ gw := gw_at 149 (by decide +kernel) (by decide +kernel)
theorem k_162 : (Jvm.Cond.fieldLink "PledgeMonitor$Text" (120 : Nat) "PledgeMonitor$Clause" "action" "I") ∈ gw := gw_at 152 (by decide +kernel) (by decide +kernel)
theorem k_163 : (Jvm.Cond.fieldLink "PledgeMonitor$Text" (111 : Nat) "PledgeMonitor$Clause" "party" "I") ∈ gw := gw_at 156 (by decide +kernel) (by decide +kernel)
theorem k_164 : (Jvm.Cond.fieldLink "PledgeMonitor$Text" (114 : Nat) "PledgeMonitor$Clause" "kind" "I") ∈ gw := gw_at 159 (by decide +kernel) (by decide +kernel)
theorem k_165 : (Jvm.Cond.fieldLink "PledgeMonitor$Text" (117 : Nat) "PledgeMonitor$Clause" "otherParty" "I") ∈ gw := gw_at 161 (by decide +kernel) (by decide +kernel)
theorem k_166 : (Jvm.Cond.fieldLink "PledgeMonitor$Text" (129 : Nat) "PledgeMonitor$Clause" "digit" "I") ∈ gw := gw_at 165 (by decide +kernel) (by decide +kernel)
theorem k_167 : (Jvm.Cond.methodLink "PledgeMonitor$Text" (123 : Nat) ({ cls := "PledgeMonitor$Text", name := "readTermSign", desc := "(LPledgeMonitor$Clause;)Z" } : Jvm.MethodName)) ∈ gw := gw_at 514 (by decide +kernel) (by decide +kernel)
theorem k_168 : (Jvm.Cond.instanceMethod ({ cls := "PledgeMonitor$Text", name := "readTermSign", desc := "(LPledgeMonitor$Clause;)Z" } : Jvm.MethodName)) ∈ gw := gw_at 516 (by decide +kernel) (by decide +kernel)
theorem k_169 : (Jvm.Cond.selects "PledgeMonitor$Text" ({ cls := "PledgeMonitor$Text", name := "readTermSign", desc := "(LPledgeMonitor$Clause;)Z" } : Jvm.MethodName) ({ cls := "PledgeMonitor$Text", name := "readTermSign", desc := "(LPledgeMonitor$Clause;)Z" } : Jvm.MethodName)) ∈ gw := gw_at 13 (by decide +kernel) (by decide +kernel)
theorem k_170 : (Jvm.Cond.code ({ cls := "PledgeMonitor$Text", name := "readTermSign", desc := "(LPledgeMonitor$Clause;)Z" } : Jvm.MethodName) prog_9_method_10_code (2 : Nat) (Option.some Jvm.ClassFile.FieldType.boolean)) ∈ gw := gw_at 517 (by decide +kernel) (by decide +kernel)
theorem k_171 : (Jvm.Cond.methodLink "PledgeMonitor$Text" (126 : Nat) ({ cls := "PledgeMonitor$Text", name := "readPartyAndKind", desc := "()Z" } : Jvm.MethodName)) ∈ gw := gw_at 518 (by decide +kernel) (by decide +kernel)
theorem k_172 : (Jvm.Cond.instanceMethod ({ cls := "PledgeMonitor$Text", name := "readPartyAndKind", desc := "()Z" } : Jvm.MethodName)) ∈ gw := gw_at 520 (by decide +kernel) (by decide +kernel)
theorem k_173 : (Jvm.Cond.selects "PledgeMonitor$Text" ({ cls := "PledgeMonitor$Text", name := "readPartyAndKind", desc := "()Z" } : Jvm.MethodName) ({ cls := "PledgeMonitor$Text", name := "readPartyAndKind", desc := "()Z" } : Jvm.MethodName)) ∈ gw := gw_at 14 (by decide +kernel) (by decide +kernel)
theorem k_174 : (Jvm.Cond.code ({ cls := "PledgeMonitor$Text", name := "readPartyAndKind", desc := "()Z" } : Jvm.MethodName) prog_9_method_12_code (1 : Nat) (Option.some Jvm.ClassFile.FieldType.boolean)) ∈ gw := gw_at 521 (by decide +kernel) (by decide +kernel)
theorem k_175 : (Jvm.Cond.methodLink "PledgeMonitor$Text" (56 : Nat) ({ cls := "PledgeMonitor$Text", name := "readTrigger", desc := "(LPledgeMonitor$Clause;)Z" } : Jvm.MethodName)) ∈ gw := gw_at 466 (by decide +kernel) (by decide +kernel)
theorem k_176 : (Jvm.Cond.instanceMethod ({ cls := "PledgeMonitor$Text", name := "readTrigger", desc := "(LPledgeMonitor$Clause;)Z" } : Jvm.MethodName)) ∈ gw := gw_at 468 (by decide +kernel) (by decide +kernel)
theorem k_177 : (Jvm.Cond.selects "PledgeMonitor$Text" ({ cls := "PledgeMonitor$Text", name := "readTrigger", desc := "(LPledgeMonitor$Clause;)Z" } : Jvm.MethodName) ({ cls := "PledgeMonitor$Text", name := "readTrigger", desc := "(LPledgeMonitor$Clause;)Z" } : Jvm.MethodName)) ∈ gw := gw_at 1 (by decide +kernel) (by decide +kernel)
theorem k_178 : (Jvm.Cond.code ({ cls := "PledgeMonitor$Text", name := "readTrigger", desc := "(LPledgeMonitor$Clause;)Z" } : Jvm.MethodName) prog_9_method_6_code (2 : Nat) (Option.some Jvm.ClassFile.FieldType.boolean)) ∈ gw := gw_at 469 (by decide +kernel) (by decide +kernel)
theorem k_179 : (Jvm.Cond.methodLink "PledgeMonitor$Text" (59 : Nat) ({ cls := "PledgeMonitor$Text", name := "readCondition", desc := "(LPledgeMonitor$Clause;)Z" } : Jvm.MethodName)) ∈ gw := gw_at 498 (by decide +kernel) (by decide +kernel)
theorem k_180 : (Jvm.Cond.instanceMethod ({ cls := "PledgeMonitor$Text", name := "readCondition", desc := "(LPledgeMonitor$Clause;)Z" } : Jvm.MethodName)) ∈ gw := gw_at 500 (by decide +kernel) (by decide +kernel)
theorem k_181 : (Jvm.Cond.selects "PledgeMonitor$Text" ({ cls := "PledgeMonitor$Text", name := "readCondition", desc := "(LPledgeMonitor$Clause;)Z" } : Jvm.MethodName) ({ cls := "PledgeMonitor$Text", name := "readCondition", desc := "(LPledgeMonitor$Clause;)Z" } : Jvm.MethodName)) ∈ gw := gw_at 9 (by decide +kernel) (by decide +kernel)
theorem k_182 : (Jvm.Cond.code ({ cls := "PledgeMonitor$Text", name := "readCondition", desc := "(LPledgeMonitor$Clause;)Z" } : Jvm.MethodName) prog_9_method_8_code (2 : Nat) (Option.some Jvm.ClassFile.FieldType.boolean)) ∈ gw := gw_at 501 (by decide +kernel) (by decide +kernel)
theorem k_183 : (Jvm.Cond.methodLink "PledgeMonitor$Text" (62 : Nat) ({ cls := "PledgeMonitor$Text", name := "readAction", desc := "(LPledgeMonitor$Clause;)Z" } : Jvm.MethodName)) ∈ gw := gw_at 510 (by decide +kernel) (by decide +kernel)
theorem k_184 : (Jvm.Cond.instanceMethod ({ cls := "PledgeMonitor$Text", name := "readAction", desc := "(LPledgeMonitor$Clause;)Z" } : Jvm.MethodName)) ∈ gw := gw_at 512 (by decide +kernel) (by decide +kernel)
theorem k_185 : (Jvm.Cond.selects "PledgeMonitor$Text" ({ cls := "PledgeMonitor$Text", name := "readAction", desc := "(LPledgeMonitor$Clause;)Z" } : Jvm.MethodName) ({ cls := "PledgeMonitor$Text", name := "readAction", desc := "(LPledgeMonitor$Clause;)Z" } : Jvm.MethodName)) ∈ gw := gw_at 12 (by decide +kernel) (by decide +kernel)
theorem k_186 : (Jvm.Cond.code ({ cls := "PledgeMonitor$Text", name := "readAction", desc := "(LPledgeMonitor$Clause;)Z" } : Jvm.MethodName) prog_9_method_9_code (2 : Nat) (Option.some Jvm.ClassFile.FieldType.boolean)) ∈ gw := gw_at 513 (by decide +kernel) (by decide +kernel)
theorem k_187 : (Jvm.Cond.fieldLink "PledgeMonitor$Agreement" (66 : Nat) "PledgeMonitor$Clause" "action" "I") ∈ gw := gw_at 151 (by decide +kernel) (by decide +kernel)
theorem k_188 : (Jvm.Cond.fieldLink "PledgeMonitor$Agreement" (72 : Nat) "PledgeMonitor$Clause" "trigger" "I") ∈ gw := gw_at 134 (by decide +kernel) (by decide +kernel)
theorem k_189 : (Jvm.Cond.fieldLink "PledgeMonitor$Agreement" (75 : Nat) "PledgeMonitor$Clause" "triggerNumber" "I") ∈ gw := gw_at 140 (by decide +kernel) (by decide +kernel)
theorem k_190 : (Jvm.Cond.fieldLink "PledgeMonitor$Agreement" (69 : Nat) "PledgeMonitor$Clause" "digit" "I") ∈ gw := gw_at 164 (by decide +kernel) (by decide +kernel)
theorem k_191 : (Jvm.Cond.methodLink "PledgeMonitor$Agreement" (62 : Nat) ({ cls := "PledgeMonitor$Agreement", name := "liesOnRound", desc := "(I)Z" } : Jvm.MethodName)) ∈ gw := gw_at 530 (by decide +kernel) (by decide +kernel)
theorem k_192 : (Jvm.Cond.instanceMethod ({ cls := "PledgeMonitor$Agreement", name := "liesOnRound", desc := "(I)Z" } : Jvm.MethodName)) ∈ gw := gw_at 532 (by decide +kernel) (by decide +kernel)
theorem k_193 : (Jvm.Cond.selects "PledgeMonitor$Agreement" ({ cls := "PledgeMonitor$Agreement", name := "liesOnRound", desc := "(I)Z" } : Jvm.MethodName) ({ cls := "PledgeMonitor$Agreement", name := "liesOnRound", desc := "(I)Z" } : Jvm.MethodName)) ∈ gw := gw_at 16 (by decide +kernel) (by decide +kernel)
theorem k_194 : (Jvm.Cond.code ({ cls := "PledgeMonitor$Agreement", name := "liesOnRound", desc := "(I)Z" } : Jvm.MethodName) prog_2_method_7_code (4 : Nat) (Option.some Jvm.ClassFile.FieldType.boolean)) ∈ gw := gw_at 533 (by decide +kernel) (by decide +kernel)
theorem k_195 : (Jvm.Cond.methodLink "PledgeMonitor$Agreement" (58 : Nat) ({ cls := "PledgeMonitor$Agreement", name := "refersRightly", desc := "(LPledgeMonitor$Clause;)Z" } : Jvm.MethodName)) ∈ gw := gw_at 526 (by decide +kernel) (by decide +kernel)
theorem k_196 : (Jvm.Cond.instanceMethod ({ cls := "PledgeMonitor$Agreement", name := "refersRightly", desc := "(LPledgeMonitor$Clause;)Z" } : Jvm.MethodName)) ∈ gw := gw_at 528 (by decide +kernel) (by decide +kernel)
theorem k_197 : (Jvm.Cond.selects "PledgeMonitor$Agreement" ({ cls := "PledgeMonitor$Agreement", name := "refersRightly", desc := "(LPledgeMonitor$Clause;)Z" } : Jvm.MethodName) ({ cls := "PledgeMonitor$Agreement", name := "refersRightly", desc := "(LPledgeMonitor$Clause;)Z" } : Jvm.MethodName)) ∈ gw := gw_at 15 (by decide +kernel) (by decide +kernel)
theorem k_198 : (Jvm.Cond.code ({ cls := "PledgeMonitor$Agreement", name := "refersRightly", desc := "(LPledgeMonitor$Clause;)Z" } : Jvm.MethodName) prog_2_method_6_code (3 : Nat) (Option.some Jvm.ClassFile.FieldType.boolean)) ∈ gw := gw_at 529 (by decide +kernel) (by decide +kernel)
theorem k_199 : (Jvm.Cond.fieldLink "PledgeMonitor$Text" (35 : Nat) "PledgeMonitor$Agreement" "clauses" "[LPledgeMonitor$Clause;") ∈ gw := gw_at 196 (by decide +kernel) (by decide +kernel)
theorem k_200 : (Jvm.Cond.methodLink "PledgeMonitor$Text" (41 : Nat) ({ cls := "PledgeMonitor$Text", name := "readClause", desc := "(LPledgeMonitor$Clause;)Z" } : Jvm.MethodName)) ∈ gw := gw_at 462 (by decide +kernel) (by decide +kernel)
theorem k_201 : (Jvm.Cond.instanceMethod ({ cls := "PledgeMonitor$Text", name := "readClause", desc := "(LPledgeMonitor$Clause;)Z" } : Jvm.MethodName)) ∈ gw := gw_at 464 (by decide +kernel) (by decide +kernel)
theorem k_202 : (Jvm.Cond.selects "PledgeMonitor$Text" ({ cls := "PledgeMonitor$Text", name := "readClause", desc := "(LPledgeMonitor$Clause;)Z" } : Jvm.MethodName) ({ cls := "PledgeMonitor$Text", name := "readClause", desc := "(LPledgeMonitor$Clause;)Z" } : Jvm.MethodName)) ∈ gw := gw_at 0 (by decide +kernel) (by decide +kernel)
theorem k_203 : (Jvm.Cond.code ({ cls := "PledgeMonitor$Text", name := "readClause", desc := "(LPledgeMonitor$Clause;)Z" } : Jvm.MethodName) prog_9_method_5_code (2 : Nat) (Option.some Jvm.ClassFile.FieldType.boolean)) ∈ gw := gw_at 465 (by decide +kernel) (by decide +kernel)
theorem k_204 : (Jvm.Cond.fieldLink "PledgeMonitor$Text" (45 : Nat) "PledgeMonitor$Agreement" "size" "I") ∈ gw := gw_at 199 (by decide +kernel) (by decide +kernel)
theorem k_205 : (Jvm.Cond.methodLink "PledgeMonitor$Text" (48 : Nat) ({ cls := "PledgeMonitor$Agreement", name := "faultOfReferences", desc := "()I" } : Jvm.MethodName)) ∈ gw := gw_at 522 (by decide +kernel) (by decide +kernel)
theorem k_206 : (Jvm.Cond.instanceMethod ({ cls := "PledgeMonitor$Agreement", name := "faultOfReferences", desc := "()I" } : Jvm.MethodName)) ∈ gw := gw_at 523 (by decide +kernel) (by decide +kernel)
theorem k_207 : (Jvm.Cond.selects "PledgeMonitor$Agreement" ({ cls := "PledgeMonitor$Agreement", name := "faultOfReferences", desc := "()I" } : Jvm.MethodName) ({ cls := "PledgeMonitor$Agreement", name := "faultOfReferences", desc := "()I" } : Jvm.MethodName)) ∈ gw := gw_at 524 (by decide +kernel) (by decide +kernel)
theorem k_208 : (Jvm.Cond.code ({ cls := "PledgeMonitor$Agreement", name := "faultOfReferences", desc := "()I" } : Jvm.MethodName) prog_2_method_5_code (2 : Nat) (Option.some Jvm.ClassFile.FieldType.int)) ∈ gw := gw_at 525 (by decide +kernel) (by decide +kernel)
theorem k_209 : (Jvm.Cond.fieldLink "PledgeMonitor$State" (35 : Nat) "PledgeMonitor$Terms" "size" "I") ∈ gw := gw_at 222 (by decide +kernel) (by decide +kernel)
theorem k_210 : (Jvm.Cond.methodLink "PledgeMonitor$Clause" (52 : Nat) ({ cls := "PledgeMonitor$State", name := "debtOf", desc := "(II)I" } : Jvm.MethodName)) ∈ gw := gw_at 617 (by decide +kernel) (by decide +kernel)
theorem k_211 : (Jvm.Cond.instanceMethod ({ cls := "PledgeMonitor$State", name := "debtOf", desc := "(II)I" } : Jvm.MethodName)) ∈ gw := gw_at 446 (by decide +kernel) (by decide +kernel)
theorem k_212 : (Jvm.Cond.selects "PledgeMonitor$State" ({ cls := "PledgeMonitor$State", name := "debtOf", desc := "(II)I" } : Jvm.MethodName) ({ cls := "PledgeMonitor$State", name := "debtOf", desc := "(II)I" } : Jvm.MethodName)) ∈ gw := gw_at 447 (by decide +kernel) (by decide +kernel)
theorem k_213 : (Jvm.Cond.code ({ cls := "PledgeMonitor$State", name := "debtOf", desc := "(II)I" } : Jvm.MethodName) prog_7_method_2_code (3 : Nat) (Option.some Jvm.ClassFile.FieldType.int)) ∈ gw := gw_at 448 (by decide +kernel) (by decide +kernel)
theorem k_214 : (Jvm.Cond.fieldLink "PledgeMonitor$Runner" (114 : Nat) "PledgeMonitor$Clause" "action" "I") ∈ gw := gw_at 153 (by decide +kernel) (by decide +kernel)
theorem k_215 : (Jvm.Cond.fieldLink "PledgeMonitor$Runner" (76 : Nat) "PledgeMonitor$State" "duties" "LPledgeMonitor$Terms;") ∈ gw := gw_at 236 (by decide +kernel) (by decide +kernel)
theorem k_216 : (Jvm.Cond.fieldLink "PledgeMonitor$Runner" (79 : Nat) "PledgeMonitor$State" "day" "I") ∈ gw := gw_at 232 (by decide +kernel) (by decide +kernel)
theorem k_217 : (Jvm.Cond.fieldLink "PledgeMonitor$Runner" (117 : Nat) "PledgeMonitor$Clause" "digit" "I") ∈ gw := gw_at 166 (by decide +kernel) (by decide +kernel)
theorem k_218 : (Jvm.Cond.methodLink "PledgeMonitor$Runner" (120 : Nat) ({ cls := "PledgeMonitor$Runner", name := "businessDay", desc := "(II)I" } : Jvm.MethodName)) ∈ gw := gw_at 622 (by decide +kernel) (by decide +kernel)
theorem k_219 : (Jvm.Cond.instanceMethod ({ cls := "PledgeMonitor$Runner", name := "businessDay", desc := "(II)I" } : Jvm.MethodName)) ∈ gw := gw_at 624 (by decide +kernel) (by decide +kernel)
theorem k_220 : (Jvm.Cond.selects "PledgeMonitor$Runner" ({ cls := "PledgeMonitor$Runner", name := "businessDay", desc := "(II)I" } : Jvm.MethodName) ({ cls := "PledgeMonitor$Runner", name := "businessDay", desc := "(II)I" } : Jvm.MethodName)) ∈ gw := gw_at 21 (by decide +kernel) (by decide +kernel)
theorem k_221 : (Jvm.Cond.code ({ cls := "PledgeMonitor$Runner", name := "businessDay", desc := "(II)I" } : Jvm.MethodName) prog_5_method_11_code (5 : Nat) (Option.some Jvm.ClassFile.FieldType.int)) ∈ gw := gw_at 625 (by decide +kernel) (by decide +kernel)
theorem k_222 : (Jvm.Cond.methodLink "PledgeMonitor$Runner" (123 : Nat) ({ cls := "PledgeMonitor$Terms", name := "add", desc := "(II)Z" } : Jvm.MethodName)) ∈ gw := gw_at 626 (by decide +kernel) (by decide +kernel)
theorem k_223 : (Jvm.Cond.instanceMethod ({ cls := "PledgeMonitor$Terms", name := "add", desc := "(II)Z" } : Jvm.MethodName)) ∈ gw := gw_at 627 (by decide +kernel) (by decide +kernel)
theorem k_224 : (Jvm.Cond.selects "PledgeMonitor$Terms" ({ cls := "PledgeMonitor$Terms", name := "add", desc := "(II)Z" } : Jvm.MethodName) ({ cls := "PledgeMonitor$Terms", name := "add", desc := "(II)Z" } : Jvm.MethodName)) ∈ gw := gw_at 628 (by decide +kernel) (by decide +kernel)
theorem k_225 : (Jvm.Cond.code ({ cls := "PledgeMonitor$Terms", name := "add", desc := "(II)Z" } : Jvm.MethodName) prog_8_method_4_code (5 : Nat) (Option.some Jvm.ClassFile.FieldType.boolean)) ∈ gw := gw_at 629 (by decide +kernel) (by decide +kernel)
theorem k_226 : (Jvm.Cond.fieldLink "PledgeMonitor$Runner" (126 : Nat) "PledgeMonitor$Clause" "party" "I") ∈ gw := gw_at 157 (by decide +kernel) (by decide +kernel)
theorem k_227 : (Jvm.Cond.fieldLink "PledgeMonitor$Runner" (129 : Nat) "PledgeMonitor$Clause" "otherParty" "I") ∈ gw := gw_at 162 (by decide +kernel) (by decide +kernel)
theorem k_228 : (Jvm.Cond.methodLink "PledgeMonitor$Runner" (132 : Nat) ({ cls := "PledgeMonitor$State", name := "addDebt", desc := "(III)Z" } : Jvm.MethodName)) ∈ gw := gw_at 630 (by decide +kernel) (by decide +kernel)
theorem k_229 : (Jvm.Cond.instanceMethod ({ cls := "PledgeMonitor$State", name := "addDebt", desc := "(III)Z" } : Jvm.MethodName)) ∈ gw := gw_at 631 (by decide +kernel) (by decide +kernel)
theorem k_230 : (Jvm.Cond.selects "PledgeMonitor$State" ({ cls := "PledgeMonitor$State", name := "addDebt", desc := "(III)Z" } : Jvm.MethodName) ({ cls := "PledgeMonitor$State", name := "addDebt", desc := "(III)Z" } : Jvm.MethodName)) ∈ gw := gw_at 632 (by decide +kernel) (by decide +kernel)
theorem k_231 : (Jvm.Cond.code ({ cls := "PledgeMonitor$State", name := "addDebt", desc := "(III)Z" } : Jvm.MethodName) prog_7_method_3_code (5 : Nat) (Option.some Jvm.ClassFile.FieldType.boolean)) ∈ gw := gw_at 633 (by decide +kernel) (by decide +kernel)
theorem k_232 : (Jvm.Cond.fieldLink "PledgeMonitor$Runner" (59 : Nat) "PledgeMonitor$State" "powers" "LPledgeMonitor$Terms;") ∈ gw := gw_at 243 (by decide +kernel) (by decide +kernel)
theorem k_233 : (Jvm.Cond.fieldLink "PledgeMonitor$Runner" (49 : Nat) "PledgeMonitor$State" "bans" "LPledgeMonitor$Terms;") ∈ gw := gw_at 240 (by decide +kernel) (by decide +kernel)
theorem k_234 : (Jvm.Cond.methodLink "PledgeMonitor$Runner" (37 : Nat) ({ cls := "PledgeMonitor$Runner", name := "await", desc := "(I)V" } : Jvm.MethodName)) ∈ gw := gw_at 605 (by decide +kernel) (by decide +kernel)
theorem k_235 : (Jvm.Cond.instanceMethod ({ cls := "PledgeMonitor$Runner", name := "await", desc := "(I)V" } : Jvm.MethodName)) ∈ gw := gw_at 607 (by decide +kernel) (by decide +kernel)
theorem k_236 : (Jvm.Cond.selects "PledgeMonitor$Runner" ({ cls := "PledgeMonitor$Runner", name := "await", desc := "(I)V" } : Jvm.MethodName) ({ cls := "PledgeMonitor$Runner", name := "await", desc := "(I)V" } : Jvm.MethodName)) ∈ gw := gw_at 18 (by decide +kernel) (by decide +kernel)
theorem k_237 : (Jvm.Cond.code ({ cls := "PledgeMonitor$Runner", name := "await", desc := "(I)V" } : Jvm.MethodName) prog_5_method_8_code (2 : Nat) (Option.none : Option Jvm.ClassFile.FieldType)) ∈ gw := gw_at 608 (by decide +kernel) (by decide +kernel)
theorem k_238 : (Jvm.Cond.fieldLink "PledgeMonitor$Runner" (28 : Nat) "PledgeMonitor$Agreement" "clauses" "[LPledgeMonitor$Clause;") ∈ gw := gw_at 195 (by decide +kernel) (by decide +kernel)
theorem k_239 : (Jvm.Cond.methodLink "PledgeMonitor$Runner" (106 : Nat) ({ cls := "PledgeMonitor$Clause", name := "holds", desc := "(LPledgeMonitor$State;)Z" } : Jvm.MethodName)) ∈ gw := gw_at 613 (by decide +kernel) (by decide +kernel)
theorem k_240 : (Jvm.Cond.instanceMethod ({ cls := "PledgeMonitor$Clause", name := "holds", desc := "(LPledgeMonitor$State;)Z" } : Jvm.MethodName)) ∈ gw := gw_at 614 (by decide +kernel) (by decide +kernel)
theorem k_241 : (Jvm.Cond.selects "PledgeMonitor$Clause" ({ cls := "PledgeMonitor$Clause", name := "holds", desc := "(LPledgeMonitor$State;)Z" } : Jvm.MethodName) ({ cls := "PledgeMonitor$Clause", name := "holds", desc := "(LPledgeMonitor$State;)Z" } : Jvm.MethodName)) ∈ gw := gw_at 615 (by decide +kernel) (by decide +kernel)
theorem k_242 : (Jvm.Cond.code ({ cls := "PledgeMonitor$Clause", name := "holds", desc := "(LPledgeMonitor$State;)Z" } : Jvm.MethodName) prog_3_method_5_code (2 : Nat) (Option.some Jvm.ClassFile.FieldType.boolean)) ∈ gw := gw_at 616 (by decide +kernel) (by decide +kernel)
theorem k_243 : (Jvm.Cond.methodLink "PledgeMonitor$Runner" (110 : Nat) ({ cls := "PledgeMonitor$Runner", name := "act", desc := "(LPledgeMonitor$Clause;ILPledgeMonitor$State;)Z" } : Jvm.MethodName)) ∈ gw := gw_at 618 (by decide +kernel) (by decide +kernel)
theorem k_244 : (Jvm.Cond.instanceMethod ({ cls := "PledgeMonitor$Runner", name := "act", desc := "(LPledgeMonitor$Clause;ILPledgeMonitor$State;)Z" } : Jvm.MethodName)) ∈ gw := gw_at 620 (by decide +kernel) (by decide +kernel)
theorem k_245 : (Jvm.Cond.selects "PledgeMonitor$Runner" ({ cls := "PledgeMonitor$Runner", name := "act", desc := "(LPledgeMonitor$Clause;ILPledgeMonitor$State;)Z" } : Jvm.MethodName) ({ cls := "PledgeMonitor$Runner", name := "act", desc := "(LPledgeMonitor$Clause;ILPledgeMonitor$State;)Z" } : Jvm.MethodName)) ∈ gw := gw_at 20 (by decide +kernel) (by decide +kernel)
theorem k_246 : (Jvm.Cond.code ({ cls := "PledgeMonitor$Runner", name := "act", desc := "(LPledgeMonitor$Clause;ILPledgeMonitor$State;)Z" } : Jvm.MethodName) prog_5_method_10_code (4 : Nat) (Option.some Jvm.ClassFile.FieldType.boolean)) ∈ gw := gw_at 621 (by decide +kernel) (by decide +kernel)
theorem k_247 : (Jvm.Cond.fieldLink "PledgeMonitor$Runner" (23 : Nat) "PledgeMonitor$Agreement" "size" "I") ∈ gw := gw_at 198 (by decide +kernel) (by decide +kernel)
theorem k_248 : (Jvm.Cond.methodLink "PledgeMonitor$Runner" (41 : Nat) ({ cls := "PledgeMonitor$Runner", name := "runWaiting", desc := "(LPledgeMonitor$Agreement;LPledgeMonitor$State;)Z" } : Jvm.MethodName)) ∈ gw := gw_at 609 (by decide +kernel) (by decide +kernel)
theorem k_249 : (Jvm.Cond.instanceMethod ({ cls := "PledgeMonitor$Runner", name := "runWaiting", desc := "(LPledgeMonitor$Agreement;LPledgeMonitor$State;)Z" } : Jvm.MethodName)) ∈ gw := gw_at 611 (by decide +kernel) (by decide +kernel)
theorem k_250 : (Jvm.Cond.selects "PledgeMonitor$Runner" ({ cls := "PledgeMonitor$Runner", name := "runWaiting", desc := "(LPledgeMonitor$Agreement;LPledgeMonitor$State;)Z" } : Jvm.MethodName) ({ cls := "PledgeMonitor$Runner", name := "runWaiting", desc := "(LPledgeMonitor$Agreement;LPledgeMonitor$State;)Z" } : Jvm.MethodName)) ∈ gw := gw_at 19 (by decide +kernel) (by decide +kernel)
theorem k_251 : (Jvm.Cond.code ({ cls := "PledgeMonitor$Runner", name := "runWaiting", desc := "(LPledgeMonitor$Agreement;LPledgeMonitor$State;)Z" } : Jvm.MethodName) prog_5_method_9_code (5 : Nat) (Option.some Jvm.ClassFile.FieldType.boolean)) ∈ gw := gw_at 612 (by decide +kernel) (by decide +kernel)
theorem k_252 : (Jvm.Cond.fieldLink "PledgeMonitor$Runner" (32 : Nat) "PledgeMonitor$Clause" "trigger" "I") ∈ gw := gw_at 132 (by decide +kernel) (by decide +kernel)
theorem k_253 : (Jvm.Cond.methodLink "PledgeMonitor$Terms" (30 : Nat) ({ cls := "java/lang/System", name := "arraycopy", desc := "(Ljava/lang/Object;ILjava/lang/Object;II)V" } : Jvm.MethodName)) ∈ gw := gw_at 399 (by decide +kernel) (by decide +kernel)
theorem k_254 : (Jvm.Cond.native ({ cls := "java/lang/System", name := "arraycopy", desc := "(Ljava/lang/Object;ILjava/lang/Object;II)V" } : Jvm.MethodName)) ∈ gw := gw_at 401 (by decide +kernel) (by decide +kernel)
theorem k_255 : (Jvm.Cond.static ({ cls := "java/lang/System", name := "arraycopy", desc := "(Ljava/lang/Object;ILjava/lang/Object;II)V" } : Jvm.MethodName)) ∈ gw := gw_at 400 (by decide +kernel) (by decide +kernel)
theorem k_256 : (Jvm.Cond.initialized "java/lang/System") ∈ gw := gw_at 80 (by decide +kernel) (by decide +kernel)
theorem k_257 : (Jvm.Cond.methodLink "PledgeMonitor$State" (38 : Nat) ({ cls := "PledgeMonitor$Terms", name := "copyFrom", desc := "(LPledgeMonitor$Terms;)V" } : Jvm.MethodName)) ∈ gw := gw_at 395 (by decide +kernel) (by decide +kernel)
theorem k_258 : (Jvm.Cond.instanceMethod ({ cls := "PledgeMonitor$Terms", name := "copyFrom", desc := "(LPledgeMonitor$Terms;)V" } : Jvm.MethodName)) ∈ gw := gw_at 396 (by decide +kernel) (by decide +kernel)
theorem k_259 : (Jvm.Cond.selects "PledgeMonitor$Terms" ({ cls := "PledgeMonitor$Terms", name := "copyFrom", desc := "(LPledgeMonitor$Terms;)V" } : Jvm.MethodName) ({ cls := "PledgeMonitor$Terms", name := "copyFrom", desc := "(LPledgeMonitor$Terms;)V" } : Jvm.MethodName)) ∈ gw := gw_at 397 (by decide +kernel) (by decide +kernel)
theorem k_260 : (Jvm.Cond.code ({ cls := "PledgeMonitor$Terms", name := "copyFrom", desc := "(LPledgeMonitor$Terms;)V" } : Jvm.MethodName) prog_8_method_8_code (2 : Nat) (Option.none : Option Jvm.ClassFile.FieldType)) ∈ gw := gw_at 398 (by decide +kernel) (by decide +kernel)
theorem k_261 : (Jvm.Cond.methodLink "PledgeMonitor$State" (42 : Nat) ({ cls := "java/lang/System", name := "arraycopy", desc := "(Ljava/lang/Object;ILjava/lang/Object;II)V" } : Jvm.MethodName)) ∈ gw := gw_at 402 (by decide +kernel) (by decide +kernel)
theorem k_262 : (Jvm.Cond.methodLink "PledgeMonitor" (97 : Nat) ({ cls := "PledgeMonitor$History", name := "forget", desc := "()V" } : Jvm.MethodName)) ∈ gw := gw_at 375 (by decide +kernel) (by decide +kernel)
theorem k_263 : (Jvm.Cond.instanceMethod ({ cls := "PledgeMonitor$History", name := "forget", desc := "()V" } : Jvm.MethodName)) ∈ gw := gw_at 376 (by decide +kernel) (by decide +kernel)
theorem k_264 : (Jvm.Cond.selects "PledgeMonitor$History" ({ cls := "PledgeMonitor$History", name := "forget", desc := "()V" } : Jvm.MethodName) ({ cls := "PledgeMonitor$History", name := "forget", desc := "()V" } : Jvm.MethodName)) ∈ gw := gw_at 377 (by decide +kernel) (by decide +kernel)
theorem k_265 : (Jvm.Cond.code ({ cls := "PledgeMonitor$History", name := "forget", desc := "()V" } : Jvm.MethodName) prog_4_method_4_code (1 : Nat) (Option.none : Option Jvm.ClassFile.FieldType)) ∈ gw := gw_at 378 (by decide +kernel) (by decide +kernel)
theorem k_266 : (Jvm.Cond.fieldLink "PledgeMonitor$Agreement" (22 : Nat) "PledgeMonitor$Terms" "size" "I") ∈ gw := gw_at 221 (by decide +kernel) (by decide +kernel)
theorem k_267 : (Jvm.Cond.methodLink "PledgeMonitor$Agreement" (25 : Nat) ({ cls := "PledgeMonitor$Terms", name := "clauseAt", desc := "(I)I" } : Jvm.MethodName)) ∈ gw := gw_at 433 (by decide +kernel) (by decide +kernel)
theorem k_268 : (Jvm.Cond.instanceMethod ({ cls := "PledgeMonitor$Terms", name := "clauseAt", desc := "(I)I" } : Jvm.MethodName)) ∈ gw := gw_at 434 (by decide +kernel) (by decide +kernel)
theorem k_269 : (Jvm.Cond.selects "PledgeMonitor$Terms" ({ cls := "PledgeMonitor$Terms", name := "clauseAt", desc := "(I)I" } : Jvm.MethodName) ({ cls := "PledgeMonitor$Terms", name := "clauseAt", desc := "(I)I" } : Jvm.MethodName)) ∈ gw := gw_at 435 (by decide +kernel) (by decide +kernel)
theorem k_270 : (Jvm.Cond.code ({ cls := "PledgeMonitor$Terms", name := "clauseAt", desc := "(I)I" } : Jvm.MethodName) prog_8_method_2_code (2 : Nat) (Option.some Jvm.ClassFile.FieldType.int)) ∈ gw := gw_at 436 (by decide +kernel) (by decide +kernel)
theorem k_271 : (Jvm.Cond.methodLink "PledgeMonitor$Agreement" (29 : Nat) ({ cls := "PledgeMonitor$Clause", name := "isFor", desc := "(II)Z" } : Jvm.MethodName)) ∈ gw := gw_at 437 (by decide +kernel) (by decide +kernel)
theorem k_272 : (Jvm.Cond.instanceMethod ({ cls := "PledgeMonitor$Clause", name := "isFor", desc := "(II)Z" } : Jvm.MethodName)) ∈ gw := gw_at 438 (by decide +kernel) (by decide +kernel)
theorem k_273 : (Jvm.Cond.selects "PledgeMonitor$Clause" ({ cls := "PledgeMonitor$Clause", name := "isFor", desc := "(II)Z" } : Jvm.MethodName) ({ cls := "PledgeMonitor$Clause", name := "isFor", desc := "(II)Z" } : Jvm.MethodName)) ∈ gw := gw_at 439 (by decide +kernel) (by decide +kernel)
theorem k_274 : (Jvm.Cond.code ({ cls := "PledgeMonitor$Clause", name := "isFor", desc := "(II)Z" } : Jvm.MethodName) prog_3_method_4_code (3 : Nat) (Option.some Jvm.ClassFile.FieldType.boolean)) ∈ gw := gw_at 440 (by decide +kernel) (by decide +kernel)
theorem k_275 : (Jvm.Cond.methodLink "PledgeMonitor$Terms" (27 : Nat) ({ cls := "PledgeMonitor$Terms", name := "clauseAt", desc := "(I)I" } : Jvm.MethodName)) ∈ gw := gw_at 691 (by decide +kernel) (by decide +kernel)
theorem k_276 : (Jvm.Cond.methodLink "PledgeMonitor$Terms" (19 : Nat) ({ cls := "PledgeMonitor$Terms", name := "dayAt", desc := "(I)I" } : Jvm.MethodName)) ∈ gw := gw_at 692 (by decide +kernel) (by decide +kernel)
theorem k_277 : (Jvm.Cond.instanceMethod ({ cls := "PledgeMonitor$Terms", name := "dayAt", desc := "(I)I" } : Jvm.MethodName)) ∈ gw := gw_at 693 (by decide +kernel) (by decide +kernel)
theorem k_278 : (Jvm.Cond.selects "PledgeMonitor$Terms" ({ cls := "PledgeMonitor$Terms", name := "dayAt", desc := "(I)I" } : Jvm.MethodName) ({ cls := "PledgeMonitor$Terms", name := "dayAt", desc := "(I)I" } : Jvm.MethodName)) ∈ gw := gw_at 694 (by decide +kernel) (by decide +kernel)
theorem k_279 : (Jvm.Cond.code ({ cls := "PledgeMonitor$Terms", name := "dayAt", desc := "(I)I" } : Jvm.MethodName) prog_8_method_3_code (2 : Nat) (Option.some Jvm.ClassFile.FieldType.int)) ∈ gw := gw_at 695 (by decide +kernel) (by decide +kernel)
theorem k_280 : (Jvm.Cond.methodLink "PledgeMonitor$Runner" (103 : Nat) ({ cls := "PledgeMonitor$Clause", name := "isOn", desc := "(II)Z" } : Jvm.MethodName)) ∈ gw := gw_at 700 (by decide +kernel) (by decide +kernel)
theorem k_281 : (Jvm.Cond.instanceMethod ({ cls := "PledgeMonitor$Clause", name := "isOn", desc := "(II)Z" } : Jvm.MethodName)) ∈ gw := gw_at 701 (by decide +kernel) (by decide +kernel)
theorem k_282 : (Jvm.Cond.selects "PledgeMonitor$Clause" ({ cls := "PledgeMonitor$Clause", name := "isOn", desc := "(II)Z" } : Jvm.MethodName) ({ cls := "PledgeMonitor$Clause", name := "isOn", desc := "(II)Z" } : Jvm.MethodName)) ∈ gw := gw_at 702 (by decide +kernel) (by decide +kernel)
theorem k_283 : (Jvm.Cond.code ({ cls := "PledgeMonitor$Clause", name := "isOn", desc := "(II)Z" } : Jvm.MethodName) prog_3_method_3_code (3 : Nat) (Option.some Jvm.ClassFile.FieldType.boolean)) ∈ gw := gw_at 703 (by decide +kernel) (by decide +kernel)
theorem k_284 : (Jvm.Cond.methodLink "PledgeMonitor$Runner" (96 : Nat) ({ cls := "PledgeMonitor$Clause", name := "isFor", desc := "(II)Z" } : Jvm.MethodName)) ∈ gw := gw_at 686 (by decide +kernel) (by decide +kernel)
theorem k_285 : (Jvm.Cond.methodLink "PledgeMonitor$Runner" (82 : Nat) ({ cls := "PledgeMonitor$Terms", name := "countUntil", desc := "(II)I" } : Jvm.MethodName)) ∈ gw := gw_at 687 (by decide +kernel) (by decide +kernel)
theorem k_286 : (Jvm.Cond.instanceMethod ({ cls := "PledgeMonitor$Terms", name := "countUntil", desc := "(II)I" } : Jvm.MethodName)) ∈ gw := gw_at 688 (by decide +kernel) (by decide +kernel)
theorem k_287 : (Jvm.Cond.selects "PledgeMonitor$Terms" ({ cls := "PledgeMonitor$Terms", name := "countUntil", desc := "(II)I" } : Jvm.MethodName) ({ cls := "PledgeMonitor$Terms", name := "countUntil", desc := "(II)I" } : Jvm.MethodName)) ∈ gw := gw_at 689 (by decide +kernel) (by decide +kernel)
theorem k_288 : (Jvm.Cond.code ({ cls := "PledgeMonitor$Terms", name := "countUntil", desc := "(II)I" } : Jvm.MethodName) prog_8_method_7_code (5 : Nat) (Option.some Jvm.ClassFile.FieldType.int)) ∈ gw := gw_at 690 (by decide +kernel) (by decide +kernel)
theorem k_289 : (Jvm.Cond.fieldLink "PledgeMonitor$Runner" (86 : Nat) "PledgeMonitor$State" "breachCounts" "[I") ∈ gw := gw_at 247 (by decide +kernel) (by decide +kernel)
theorem k_290 : (Jvm.Cond.methodLink "PledgeMonitor$Runner" (89 : Nat) ({ cls := "PledgeMonitor$Runner", name := "awaitAllOn", desc := "(LPledgeMonitor$Agreement;III)V" } : Jvm.MethodName)) ∈ gw := gw_at 696 (by decide +kernel) (by decide +kernel)
theorem k_291 : (Jvm.Cond.instanceMethod ({ cls := "PledgeMonitor$Runner", name := "awaitAllOn", desc := "(LPledgeMonitor$Agreement;III)V" } : Jvm.MethodName)) ∈ gw := gw_at 698 (by decide +kernel) (by decide +kernel)
theorem k_292 : (Jvm.Cond.selects "PledgeMonitor$Runner" ({ cls := "PledgeMonitor$Runner", name := "awaitAllOn", desc := "(LPledgeMonitor$Agreement;III)V" } : Jvm.MethodName) ({ cls := "PledgeMonitor$Runner", name := "awaitAllOn", desc := "(LPledgeMonitor$Agreement;III)V" } : Jvm.MethodName)) ∈ gw := gw_at 23 (by decide +kernel) (by decide +kernel)
theorem k_293 : (Jvm.Cond.code ({ cls := "PledgeMonitor$Runner", name := "awaitAllOn", desc := "(LPledgeMonitor$Agreement;III)V" } : Jvm.MethodName) prog_5_method_7_code (7 : Nat) (Option.none : Option Jvm.ClassFile.FieldType)) ∈ gw := gw_at 699 (by decide +kernel) (by decide +kernel)
theorem k_294 : (Jvm.Cond.methodLink "PledgeMonitor$Runner" (55 : Nat) ({ cls := "PledgeMonitor$Agreement", name := "find", desc := "(LPledgeMonitor$Terms;II)I" } : Jvm.MethodName)) ∈ gw := gw_at 681 (by decide +kernel) (by decide +kernel)
theorem k_295 : (Jvm.Cond.instanceMethod ({ cls := "PledgeMonitor$Agreement", name := "find", desc := "(LPledgeMonitor$Terms;II)I" } : Jvm.MethodName)) ∈ gw := gw_at 430 (by decide +kernel) (by decide +kernel)
theorem k_296 : (Jvm.Cond.selects "PledgeMonitor$Agreement" ({ cls := "PledgeMonitor$Agreement", name := "find", desc := "(LPledgeMonitor$Terms;II)I" } : Jvm.MethodName) ({ cls := "PledgeMonitor$Agreement", name := "find", desc := "(LPledgeMonitor$Terms;II)I" } : Jvm.MethodName)) ∈ gw := gw_at 431 (by decide +kernel) (by decide +kernel)
theorem k_297 : (Jvm.Cond.code ({ cls := "PledgeMonitor$Agreement", name := "find", desc := "(LPledgeMonitor$Terms;II)I" } : Jvm.MethodName) prog_2_method_2_code (5 : Nat) (Option.some Jvm.ClassFile.FieldType.int)) ∈ gw := gw_at 432 (by decide +kernel) (by decide +kernel)
theorem k_298 : (Jvm.Cond.methodLink "PledgeMonitor$Runner" (99 : Nat) ({ cls := "PledgeMonitor$Terms", name := "clauseAt", desc := "(I)I" } : Jvm.MethodName)) ∈ gw := gw_at 712 (by decide +kernel) (by decide +kernel)
theorem k_299 : (Jvm.Cond.methodLink "PledgeMonitor$Runner" (66 : Nat) ({ cls := "PledgeMonitor$Terms", name := "remove", desc := "(II)V" } : Jvm.MethodName)) ∈ gw := gw_at 704 (by decide +kernel) (by decide +kernel)
theorem k_300 : (Jvm.Cond.instanceMethod ({ cls := "PledgeMonitor$Terms", name := "remove", desc := "(II)V" } : Jvm.MethodName)) ∈ gw := gw_at 705 (by decide +kernel) (by decide +kernel)
theorem k_301 : (Jvm.Cond.selects "PledgeMonitor$Terms" ({ cls := "PledgeMonitor$Terms", name := "remove", desc := "(II)V" } : Jvm.MethodName) ({ cls := "PledgeMonitor$Terms", name := "remove", desc := "(II)V" } : Jvm.MethodName)) ∈ gw := gw_at 706 (by decide +kernel) (by decide +kernel)
theorem k_302 : (Jvm.Cond.code ({ cls := "PledgeMonitor$Terms", name := "remove", desc := "(II)V" } : Jvm.MethodName) prog_8_method_5_code (4 : Nat) (Option.none : Option Jvm.ClassFile.FieldType)) ∈ gw := gw_at 707 (by decide +kernel) (by decide +kernel)
theorem k_303 : (Jvm.Cond.methodLink "PledgeMonitor$Runner" (72 : Nat) ({ cls := "PledgeMonitor$Runner", name := "fulfilDuty", desc := "(LPledgeMonitor$Agreement;LPledgeMonitor$State;II)V" } : Jvm.MethodName)) ∈ gw := gw_at 708 (by decide +kernel) (by decide +kernel)
theorem k_304 : (Jvm.Cond.instanceMethod ({ cls := "PledgeMonitor$Runner", name := "fulfilDuty", desc := "(LPledgeMonitor$Agreement;LPledgeMonitor$State;II)V" } : Jvm.MethodName)) ∈ gw := gw_at 710 (by decide +kernel) (by decide +kernel)
theorem k_305 : (Jvm.Cond.selects "PledgeMonitor$Runner" ({ cls := "PledgeMonitor$Runner", name := "fulfilDuty", desc := "(LPledgeMonitor$Agreement;LPledgeMonitor$State;II)V" } : Jvm.MethodName) ({ cls := "PledgeMonitor$Runner", name := "fulfilDuty", desc := "(LPledgeMonitor$Agreement;LPledgeMonitor$State;II)V" } : Jvm.MethodName)) ∈ gw := gw_at 24 (by decide +kernel) (by decide +kernel)
theorem k_306 : (Jvm.Cond.code ({ cls := "PledgeMonitor$Runner", name := "fulfilDuty", desc := "(LPledgeMonitor$Agreement;LPledgeMonitor$State;II)V" } : Jvm.MethodName) prog_5_method_6_code (6 : Nat) (Option.none : Option Jvm.ClassFile.FieldType)) ∈ gw := gw_at 711 (by decide +kernel) (by decide +kernel)
theorem k_307 : (Jvm.Cond.methodLink "PledgeMonitor$Runner" (62 : Nat) ({ cls := "PledgeMonitor$Runner", name := "breachBans", desc := "(LPledgeMonitor$Agreement;LPledgeMonitor$State;II)I" } : Jvm.MethodName)) ∈ gw := gw_at 682 (by decide +kernel) (by decide +kernel)
theorem k_308 : (Jvm.Cond.instanceMethod ({ cls := "PledgeMonitor$Runner", name := "breachBans", desc := "(LPledgeMonitor$Agreement;LPledgeMonitor$State;II)I" } : Jvm.MethodName)) ∈ gw := gw_at 684 (by decide +kernel) (by decide +kernel)
theorem k_309 : (Jvm.Cond.selects "PledgeMonitor$Runner" ({ cls := "PledgeMonitor$Runner", name := "breachBans", desc := "(LPledgeMonitor$Agreement;LPledgeMonitor$State;II)I" } : Jvm.MethodName) ({ cls := "PledgeMonitor$Runner", name := "breachBans", desc := "(LPledgeMonitor$Agreement;LPledgeMonitor$State;II)I" } : Jvm.MethodName)) ∈ gw := gw_at 22 (by decide +kernel) (by decide +kernel)
theorem k_310 : (Jvm.Cond.code ({ cls := "PledgeMonitor$Runner", name := "breachBans", desc := "(LPledgeMonitor$Agreement;LPledgeMonitor$State;II)I" } : Jvm.MethodName) prog_5_method_5_code (8 : Nat) (Option.some Jvm.ClassFile.FieldType.int)) ∈ gw := gw_at 685 (by decide +kernel) (by decide +kernel)
theorem k_311 : (Jvm.Cond.methodLink "PledgeMonitor$Runner" (45 : Nat) ({ cls := "PledgeMonitor$Clause", name := "isOnEvent", desc := "(II)Z" } : Jvm.MethodName)) ∈ gw := gw_at 677 (by decide +kernel) (by decide +kernel)
theorem k_312 : (Jvm.Cond.instanceMethod ({ cls := "PledgeMonitor$Clause", name := "isOnEvent", desc := "(II)Z" } : Jvm.MethodName)) ∈ gw := gw_at 678 (by decide +kernel) (by decide +kernel)
theorem k_313 : (Jvm.Cond.selects "PledgeMonitor$Clause" ({ cls := "PledgeMonitor$Clause", name := "isOnEvent", desc := "(II)Z" } : Jvm.MethodName) ({ cls := "PledgeMonitor$Clause", name := "isOnEvent", desc := "(II)Z" } : Jvm.MethodName)) ∈ gw := gw_at 679 (by decide +kernel) (by decide +kernel)
theorem k_314 : (Jvm.Cond.code ({ cls := "PledgeMonitor$Clause", name := "isOnEvent", desc := "(II)Z" } : Jvm.MethodName) prog_3_method_2_code (3 : Nat) (Option.some Jvm.ClassFile.FieldType.boolean)) ∈ gw := gw_at 680 (by decide +kernel) (by decide +kernel)
theorem k_315 : (Jvm.Cond.methodLink "PledgeMonitor$History" (25 : Nat) ({ cls := "PledgeMonitor$State", name := "copyFrom", desc := "(LPledgeMonitor$State;)V" } : Jvm.MethodName)) ∈ gw := gw_at 391 (by decide +kernel) (by decide +kernel)
theorem k_316 : (Jvm.Cond.instanceMethod ({ cls := "PledgeMonitor$State", name := "copyFrom", desc := "(LPledgeMonitor$State;)V" } : Jvm.MethodName)) ∈ gw := gw_at 392 (by decide +kernel) (by decide +kernel)
theorem k_317 : (Jvm.Cond.selects "PledgeMonitor$State" ({ cls := "PledgeMonitor$State", name := "copyFrom", desc := "(LPledgeMonitor$State;)V" } : Jvm.MethodName) ({ cls := "PledgeMonitor$State", name := "copyFrom", desc := "(LPledgeMonitor$State;)V" } : Jvm.MethodName)) ∈ gw := gw_at 393 (by decide +kernel) (by decide +kernel)
theorem k_318 : (Jvm.Cond.code ({ cls := "PledgeMonitor$State", name := "copyFrom", desc := "(LPledgeMonitor$State;)V" } : Jvm.MethodName) prog_7_method_5_code (2 : Nat) (Option.none : Option Jvm.ClassFile.FieldType)) ∈ gw := gw_at 394 (by decide +kernel) (by decide +kernel)
theorem k_319 : (Jvm.Cond.methodLink "PledgeMonitor$History" (29 : Nat) ({ cls := "java/lang/Math", name := "min", desc := "(II)I" } : Jvm.MethodName)) ∈ gw := gw_at 721 (by decide +kernel) (by decide +kernel)
theorem k_320 : (Jvm.Cond.static ({ cls := "java/lang/Math", name := "min", desc := "(II)I" } : Jvm.MethodName)) ∈ gw := gw_at 722 (by decide +kernel) (by decide +kernel)
theorem k_321 : (Jvm.Cond.initialized "java/lang/Math") ∈ gw := gw_at 82 (by decide +kernel) (by decide +kernel)
theorem k_322 : (Jvm.Cond.code ({ cls := "java/lang/Math", name := "min", desc := "(II)I" } : Jvm.MethodName) prog_15_method_69_code (2 : Nat) (Option.some Jvm.ClassFile.FieldType.int)) ∈ gw := gw_at 723 (by decide +kernel) (by decide +kernel)
theorem k_323 : (Jvm.Cond.methodLink "PledgeMonitor" (170 : Nat) ({ cls := "PledgeMonitor$History", name := "keep", desc := "(LPledgeMonitor$State;)V" } : Jvm.MethodName)) ∈ gw := gw_at 717 (by decide +kernel) (by decide +kernel)
theorem k_324 : (Jvm.Cond.instanceMethod ({ cls := "PledgeMonitor$History", name := "keep", desc := "(LPledgeMonitor$State;)V" } : Jvm.MethodName)) ∈ gw := gw_at 718 (by decide +kernel) (by decide +kernel)
theorem k_325 : (Jvm.Cond.selects "PledgeMonitor$History" ({ cls := "PledgeMonitor$History", name := "keep", desc := "(LPledgeMonitor$State;)V" } : Jvm.MethodName) ({ cls := "PledgeMonitor$History", name := "keep", desc := "(LPledgeMonitor$State;)V" } : Jvm.MethodName)) ∈ gw := gw_at 719 (by decide +kernel) (by decide +kernel)
theorem k_326 : (Jvm.Cond.code ({ cls := "PledgeMonitor$History", name := "keep", desc := "(LPledgeMonitor$State;)V" } : Jvm.MethodName) prog_4_method_2_code (2 : Nat) (Option.none : Option Jvm.ClassFile.FieldType)) ∈ gw := gw_at 720 (by decide +kernel) (by decide +kernel)
theorem k_327 : (Jvm.Cond.methodLink "PledgeMonitor" (93 : Nat) ({ cls := "PledgeMonitor$State", name := "copyFrom", desc := "(LPledgeMonitor$State;)V" } : Jvm.MethodName)) ∈ gw := gw_at 649 (by decide +kernel) (by decide +kernel)
theorem k_328 : (Jvm.Cond.methodLink "PledgeMonitor$Terms" (23 : Nat) ({ cls := "PledgeMonitor$Terms", name := "remove", desc := "(II)V" } : Jvm.MethodName)) ∈ gw := gw_at 739 (by decide +kernel) (by decide +kernel)
theorem k_329 : (Jvm.Cond.methodLink "PledgeMonitor$Runner" (93 : Nat) ({ cls := "PledgeMonitor$Terms", name := "dropBefore", desc := "(I)V" } : Jvm.MethodName)) ∈ gw := gw_at 735 (by decide +kernel) (by decide +kernel)
theorem k_330 : (Jvm.Cond.instanceMethod ({ cls := "PledgeMonitor$Terms", name := "dropBefore", desc := "(I)V" } : Jvm.MethodName)) ∈ gw := gw_at 736 (by decide +kernel) (by decide +kernel)
theorem k_331 : (Jvm.Cond.selects "PledgeMonitor$Terms" ({ cls := "PledgeMonitor$Terms", name := "dropBefore", desc := "(I)V" } : Jvm.MethodName) ({ cls := "PledgeMonitor$Terms", name := "dropBefore", desc := "(I)V" } : Jvm.MethodName)) ∈ gw := gw_at 737 (by decide +kernel) (by decide +kernel)
theorem k_332 : (Jvm.Cond.code ({ cls := "PledgeMonitor$Terms", name := "dropBefore", desc := "(I)V" } : Jvm.MethodName) prog_8_method_6_code (3 : Nat) (Option.none : Option Jvm.ClassFile.FieldType)) ∈ gw := gw_at 738 (by decide +kernel) (by decide +kernel)
theorem k_333 : (Jvm.Cond.methodLink "PledgeMonitor" (127 : Nat) ({ cls := "PledgeMonitor$History", name := "giveBack", desc := "(LPledgeMonitor$State;)Z" } : Jvm.MethodName)) ∈ gw := gw_at 387 (by decide +kernel) (by decide +kernel)
theorem k_334 : (Jvm.Cond.instanceMethod ({ cls := "PledgeMonitor$History", name := "giveBack", desc := "(LPledgeMonitor$State;)Z" } : Jvm.MethodName)) ∈ gw := gw_at 388 (by decide +kernel) (by decide +kernel)
theorem k_335 : (Jvm.Cond.selects "PledgeMonitor$History" ({ cls := "PledgeMonitor$History", name := "giveBack", desc := "(LPledgeMonitor$State;)Z" } : Jvm.MethodName) ({ cls := "PledgeMonitor$History", name := "giveBack", desc := "(LPledgeMonitor$State;)Z" } : Jvm.MethodName)) ∈ gw := gw_at 389 (by decide +kernel) (by decide +kernel)
theorem k_336 : (Jvm.Cond.code ({ cls := "PledgeMonitor$History", name := "giveBack", desc := "(LPledgeMonitor$State;)Z" } : Jvm.MethodName) prog_4_method_3_code (2 : Nat) (Option.some Jvm.ClassFile.FieldType.boolean)) ∈ gw := gw_at 390 (by decide +kernel) (by decide +kernel)
theorem k_337 : (Jvm.Cond.fieldLink "PledgeMonitor" (120 : Nat) "PledgeMonitor$State" "day" "I") ∈ gw := gw_at 233 (by decide +kernel) (by decide +kernel)
theorem k_338 : (Jvm.Cond.fieldLink "PledgeMonitor" (131 : Nat) "PledgeMonitor$State" "duties" "LPledgeMonitor$Terms;") ∈ gw := gw_at 237 (by decide +kernel) (by decide +kernel)
theorem k_339 : (Jvm.Cond.fieldLink "PledgeMonitor" (135 : Nat) "PledgeMonitor$Terms" "size" "I") ∈ gw := gw_at 223 (by decide +kernel) (by decide +kernel)
theorem k_340 : (Jvm.Cond.fieldLink "PledgeMonitor" (138 : Nat) "PledgeMonitor$Terms" "rows" "[I") ∈ gw := gw_at 219 (by decide +kernel) (by decide +kernel)
theorem k_341 : (Jvm.Cond.fieldLink "PledgeMonitor" (142 : Nat) "PledgeMonitor$State" "bans" "LPledgeMonitor$Terms;") ∈ gw := gw_at 241 (by decide +kernel) (by decide +kernel)
theorem k_342 : (Jvm.Cond.fieldLink "PledgeMonitor" (145 : Nat) "PledgeMonitor$State" "powers" "LPledgeMonitor$Terms;") ∈ gw := gw_at 244 (by decide +kernel) (by decide +kernel)
theorem k_343 : (Jvm.Cond.fieldLink "PledgeMonitor" (100 : Nat) "PledgeMonitor$Agreement" "size" "I") ∈ gw := gw_at 200 (by decide +kernel) (by decide +kernel)
theorem k_344 : (Jvm.Cond.fieldLink "PledgeMonitor" (148 : Nat) "PledgeMonitor$State" "breachCounts" "[I") ∈ gw := gw_at 248 (by decide +kernel) (by decide +kernel)
theorem k_345 : (Jvm.Cond.methodLink "PledgeMonitor" (106 : Nat) ({ cls := "PledgeMonitor", name := "isParty", desc := "(I)Z" } : Jvm.MethodName)) ∈ gw := gw_at 423 (by decide +kernel) (by decide +kernel)
theorem k_346 : (Jvm.Cond.static ({ cls := "PledgeMonitor", name := "isParty", desc := "(I)Z" } : Jvm.MethodName)) ∈ gw := gw_at 424 (by decide +kernel) (by decide +kernel)
theorem k_347 : (Jvm.Cond.initialized "PledgeMonitor") ∈ gw := gw_at 65 (by decide +kernel) (by decide +kernel)
theorem k_348 : (Jvm.Cond.code ({ cls := "PledgeMonitor", name := "isParty", desc := "(I)Z" } : Jvm.MethodName) prog_1_method_19_code (1 : Nat) (Option.some Jvm.ClassFile.FieldType.boolean)) ∈ gw := gw_at 425 (by decide +kernel) (by decide +kernel)
theorem k_349 : (Jvm.Cond.methodLink "PledgeMonitor" (110 : Nat) ({ cls := "PledgeMonitor", name := "isKind", desc := "(I)Z" } : Jvm.MethodName)) ∈ gw := gw_at 426 (by decide +kernel) (by decide +kernel)
theorem k_350 : (Jvm.Cond.static ({ cls := "PledgeMonitor", name := "isKind", desc := "(I)Z" } : Jvm.MethodName)) ∈ gw := gw_at 427 (by decide +kernel) (by decide +kernel)
theorem k_351 : (Jvm.Cond.code ({ cls := "PledgeMonitor", name := "isKind", desc := "(I)Z" } : Jvm.MethodName) prog_1_method_20_code (1 : Nat) (Option.some Jvm.ClassFile.FieldType.boolean)) ∈ gw := gw_at 428 (by decide +kernel) (by decide +kernel)
theorem k_352 : (Jvm.Cond.methodLink "PledgeMonitor" (151 : Nat) ({ cls := "PledgeMonitor$Agreement", name := "find", desc := "(LPledgeMonitor$Terms;II)I" } : Jvm.MethodName)) ∈ gw := gw_at 429 (by decide +kernel) (by decide +kernel)
theorem k_353 : (Jvm.Cond.methodLink "PledgeMonitor" (155 : Nat) ({ cls := "PledgeMonitor$State", name := "debtOf", desc := "(II)I" } : Jvm.MethodName)) ∈ gw := gw_at 445 (by decide +kernel) (by decide +kernel)
theorem k_354 : (Jvm.Cond.fieldLink "PledgeMonitor$Agreement" (46 : Nat) "PledgeMonitor$State" "duties" "LPledgeMonitor$Terms;") ∈ gw := gw_at 235 (by decide +kernel) (by decide +kernel)
theorem k_355 : (Jvm.Cond.methodLink "PledgeMonitor$Agreement" (49 : Nat) ({ cls := "PledgeMonitor$Terms", name := "dayAt", desc := "(I)I" } : Jvm.MethodName)) ∈ gw := gw_at 763 (by decide +kernel) (by decide +kernel)
theorem k_356 : (Jvm.Cond.fieldLink "PledgeMonitor$Agreement" (52 : Nat) "PledgeMonitor$State" "day" "I") ∈ gw := gw_at 231 (by decide +kernel) (by decide +kernel)
theorem k_357 : (Jvm.Cond.fieldLink "PledgeMonitor$Agreement" (55 : Nat) "PledgeMonitor$Clause" "party" "I") ∈ gw := gw_at 155 (by decide +kernel) (by decide +kernel)
theorem k_358 : (Jvm.Cond.fieldLink "PledgeMonitor$Agreement" (36 : Nat) "PledgeMonitor$State" "bans" "LPledgeMonitor$Terms;") ∈ gw := gw_at 239 (by decide +kernel) (by decide +kernel)
theorem k_359 : (Jvm.Cond.methodLink "PledgeMonitor$Agreement" (42 : Nat) ({ cls := "PledgeMonitor$Agreement", name := "find", desc := "(LPledgeMonitor$Terms;II)I" } : Jvm.MethodName)) ∈ gw := gw_at 776 (by decide +kernel) (by decide +kernel)
theorem k_360 : (Jvm.Cond.methodLink "PledgeMonitor$Agreement" (33 : Nat) ({ cls := "PledgeMonitor$Clause", name := "isOnEvent", desc := "(II)Z" } : Jvm.MethodName)) ∈ gw := gw_at 775 (by decide +kernel) (by decide +kernel)
theorem k_361 : (Jvm.Cond.methodLink "PledgeMonitor$Search" (57 : Nat) ({ cls := "PledgeMonitor$Agreement", name := "isTouchedBy", desc := "(LPledgeMonitor$State;II)Z" } : Jvm.MethodName)) ∈ gw := gw_at 771 (by decide +kernel) (by decide +kernel)
theorem k_362 : (Jvm.Cond.instanceMethod ({ cls := "PledgeMonitor$Agreement", name := "isTouchedBy", desc := "(LPledgeMonitor$State;II)Z" } : Jvm.MethodName)) ∈ gw := gw_at 772 (by decide +kernel) (by decide +kernel)
theorem k_363 : (Jvm.Cond.selects "PledgeMonitor$Agreement" ({ cls := "PledgeMonitor$Agreement", name := "isTouchedBy", desc := "(LPledgeMonitor$State;II)Z" } : Jvm.MethodName) ({ cls := "PledgeMonitor$Agreement", name := "isTouchedBy", desc := "(LPledgeMonitor$State;II)Z" } : Jvm.MethodName)) ∈ gw := gw_at 773 (by decide +kernel) (by decide +kernel)
theorem k_364 : (Jvm.Cond.code ({ cls := "PledgeMonitor$Agreement", name := "isTouchedBy", desc := "(LPledgeMonitor$State;II)Z" } : Jvm.MethodName) prog_2_method_3_code (5 : Nat) (Option.some Jvm.ClassFile.FieldType.boolean)) ∈ gw := gw_at 774 (by decide +kernel) (by decide +kernel)
theorem k_365 : (Jvm.Cond.methodLink "PledgeMonitor$Search" (45 : Nat) ({ cls := "PledgeMonitor$State", name := "copyFrom", desc := "(LPledgeMonitor$State;)V" } : Jvm.MethodName)) ∈ gw := gw_at 764 (by decide +kernel) (by decide +kernel)
theorem k_366 : (Jvm.Cond.methodLink "PledgeMonitor$Search" (61 : Nat) ({ cls := "PledgeMonitor$Runner", name := "happen", desc := "(LPledgeMonitor$Agreement;LPledgeMonitor$State;II)I" } : Jvm.MethodName)) ∈ gw := gw_at 777 (by decide +kernel) (by decide +kernel)
theorem k_367 : (Jvm.Cond.instanceMethod ({ cls := "PledgeMonitor$Runner", name := "happen", desc := "(LPledgeMonitor$Agreement;LPledgeMonitor$State;II)I" } : Jvm.MethodName)) ∈ gw := gw_at 674 (by decide +kernel) (by decide +kernel)
theorem k_368 : (Jvm.Cond.selects "PledgeMonitor$Runner" ({ cls := "PledgeMonitor$Runner", name := "happen", desc := "(LPledgeMonitor$Agreement;LPledgeMonitor$State;II)I" } : Jvm.MethodName) ({ cls := "PledgeMonitor$Runner", name := "happen", desc := "(LPledgeMonitor$Agreement;LPledgeMonitor$State;II)I" } : Jvm.MethodName)) ∈ gw := gw_at 675 (by decide +kernel) (by decide +kernel)
theorem k_369 : (Jvm.Cond.code ({ cls := "PledgeMonitor$Runner", name := "happen", desc := "(LPledgeMonitor$Agreement;LPledgeMonitor$State;II)I" } : Jvm.MethodName) prog_5_method_3_code (7 : Nat) (Option.some Jvm.ClassFile.FieldType.int)) ∈ gw := gw_at 676 (by decide +kernel) (by decide +kernel)
theorem k_370 : (Jvm.Cond.methodLink "PledgeMonitorModel" (1 : Nat) ({ cls := "java/lang/Object", name := "<init>", desc := "()V" } : Jvm.MethodName)) ∈ gw := gw_at 791 (by decide +kernel) (by decide +kernel)
theorem k_371 : (Jvm.Cond.fieldLink "PledgeMonitorModel" (7 : Nat) "PledgeMonitorModel" "text" "[I") ∈ gw := gw_at 794 (by decide +kernel) (by decide +kernel)
theorem k_372 : (Jvm.Cond.fieldLink "PledgeMonitorModel" (13 : Nat) "PledgeMonitorModel" "told" "I") ∈ gw := gw_at 795 (by decide +kernel) (by decide +kernel)
theorem k_373 : (Jvm.Cond.fieldLink "PledgeMonitorModel" (17 : Nat) "PledgeMonitorModel" "free" "[Z") ∈ gw := gw_at 796 (by decide +kernel) (by decide +kernel)
theorem k_374 : (Jvm.Cond.fieldLink "PledgeMonitorModel" (21 : Nat) "PledgeMonitorModel" "triggers" "[I") ∈ gw := gw_at 800 (by decide +kernel) (by decide +kernel)
theorem k_375 : (Jvm.Cond.fieldLink "PledgeMonitorModel" (24 : Nat) "PledgeMonitorModel" "triggerOne" "[I") ∈ gw := gw_at 801 (by decide +kernel) (by decide +kernel)
theorem k_376 : (Jvm.Cond.fieldLink "PledgeMonitorModel" (27 : Nat) "PledgeMonitorModel" "triggerTwo" "[I") ∈ gw := gw_at 802 (by decide +kernel) (by decide +kernel)
theorem k_377 : (Jvm.Cond.fieldLink "PledgeMonitorModel" (30 : Nat) "PledgeMonitorModel" "bound" "[Z") ∈ gw := gw_at 803 (by decide +kernel) (by decide +kernel)
theorem k_378 : (Jvm.Cond.fieldLink "PledgeMonitorModel" (33 : Nat) "PledgeMonitorModel" "boundOne" "[I") ∈ gw := gw_at 804 (by decide +kernel) (by decide +kernel)
theorem k_379 : (Jvm.Cond.fieldLink "PledgeMonitorModel" (36 : Nat) "PledgeMonitorModel" "boundTwo" "[I") ∈ gw := gw_at 805 (by decide +kernel) (by decide +kernel)
theorem k_380 : (Jvm.Cond.fieldLink "PledgeMonitorModel" (39 : Nat) "PledgeMonitorModel" "boundMore" "[I") ∈ gw := gw_at 806 (by decide +kernel) (by decide +kernel)
theorem k_381 : (Jvm.Cond.fieldLink "PledgeMonitorModel" (42 : Nat) "PledgeMonitorModel" "actions" "[I") ∈ gw := gw_at 807 (by decide +kernel) (by decide +kernel)
theorem k_382 : (Jvm.Cond.fieldLink "PledgeMonitorModel" (45 : Nat) "PledgeMonitorModel" "actionOne" "[I") ∈ gw := gw_at 808 (by decide +kernel) (by decide +kernel)
theorem k_383 : (Jvm.Cond.fieldLink "PledgeMonitorModel" (48 : Nat) "PledgeMonitorModel" "actionTwo" "[I") ∈ gw := gw_at 809 (by decide +kernel) (by decide +kernel)
theorem k_384 : (Jvm.Cond.fieldLink "PledgeMonitorModel" (51 : Nat) "PledgeMonitorModel" "actionMore" "[I") ∈ gw := gw_at 810 (by decide +kernel) (by decide +kernel)
theorem k_385 : (Jvm.Cond.fieldLink "PledgeMonitorModel" (54 : Nat) "PledgeMonitorModel" "states" "[I") ∈ gw := gw_at 811 (by decide +kernel) (by decide +kernel)
theorem k_386 : (Jvm.Cond.fieldLink "PledgeMonitorModel" (57 : Nat) "PledgeMonitorModel" "row" "[I") ∈ gw := gw_at 814 (by decide +kernel) (by decide +kernel)
theorem k_387 : (Jvm.Cond.fieldLink "PledgeMonitorModel" (60 : Nat) "PledgeMonitorModel" "code" "I") ∈ gw := gw_at 792 (by decide +kernel) (by decide +kernel)
theorem k_388 : (Jvm.Cond.fieldLink "PledgeMonitorModel" (65 : Nat) "PledgeMonitorModel" "typed" "I") ∈ gw := gw_at 793 (by decide +kernel) (by decide +kernel)
theorem k_389 : (Jvm.Cond.constantLong "PledgeMonitorModel" (63 : Nat) (255 : Int64)) ∈ gw := gw_at 879 (by decide +kernel) (by decide +kernel)
theorem k_390 : (Jvm.Cond.fieldLink "PledgeMonitorModel" (68 : Nat) "PledgeMonitorModel" "there" "Z") ∈ gw := gw_at 798 (by decide +kernel) (by decide +kernel)
theorem k_391 : (Jvm.Cond.methodLink "PledgeMonitorModel" (72 : Nat) ({ cls := "PledgeMonitorModel", name := "charAt", desc := "(I)I" } : Jvm.MethodName)) ∈ gw := gw_at 904 (by decide +kernel) (by decide +kernel)
theorem k_392 : (Jvm.Cond.instanceMethod ({ cls := "PledgeMonitorModel", name := "charAt", desc := "(I)I" } : Jvm.MethodName)) ∈ gw := gw_at 906 (by decide +kernel) (by decide +kernel)
theorem k_393 : (Jvm.Cond.selects "PledgeMonitorModel" ({ cls := "PledgeMonitorModel", name := "charAt", desc := "(I)I" } : Jvm.MethodName) ({ cls := "PledgeMonitorModel", name := "charAt", desc := "(I)I" } : Jvm.MethodName)) ∈ gw := gw_at 33 (by decide +kernel) (by decide +kernel)
theorem k_394 : (Jvm.Cond.initialized "PledgeMonitorModel") ∈ gw := gw_at 74 (by decide +kernel) (by decide +kernel)
theorem k_395 : (Jvm.Cond.code ({ cls := "PledgeMonitorModel", name := "charAt", desc := "(I)I" } : Jvm.MethodName) prog_11_method_6_code (2 : Nat) (Option.some Jvm.ClassFile.FieldType.int)) ∈ gw := gw_at 907 (by decide +kernel) (by decide +kernel)
theorem k_396 : (Jvm.Cond.methodLink "PledgeMonitorModel" (76 : Nat) ({ cls := "PledgeMonitorModel", name := "party", desc := "(I)I" } : Jvm.MethodName)) ∈ gw := gw_at 908 (by decide +kernel) (by decide +kernel)
theorem k_397 : (Jvm.Cond.instanceMethod ({ cls := "PledgeMonitorModel", name := "party", desc := "(I)I" } : Jvm.MethodName)) ∈ gw := gw_at 910 (by decide +kernel) (by decide +kernel)
theorem k_398 : (Jvm.Cond.selects "PledgeMonitorModel" ({ cls := "PledgeMonitorModel", name := "party", desc := "(I)I" } : Jvm.MethodName) ({ cls := "PledgeMonitorModel", name := "party", desc := "(I)I" } : Jvm.MethodName)) ∈ gw := gw_at 34 (by decide +kernel) (by decide +kernel)
theorem k_399 : (Jvm.Cond.code ({ cls := "PledgeMonitorModel", name := "party", desc := "(I)I" } : Jvm.MethodName) prog_11_method_7_code (3 : Nat) (Option.some Jvm.ClassFile.FieldType.int)) ∈ gw := gw_at 911 (by decide +kernel) (by decide +kernel)
theorem k_400 : (Jvm.Cond.methodLink "PledgeMonitorModel" (82 : Nat) ({ cls := "PledgeMonitorModel", name := "kind", desc := "(I)I" } : Jvm.MethodName)) ∈ gw := gw_at 916 (by decide +kernel) (by decide +kernel)
theorem k_401 : (Jvm.Cond.instanceMethod ({ cls := "PledgeMonitorModel", name := "kind", desc := "(I)I" } : Jvm.MethodName)) ∈ gw := gw_at 918 (by decide +kernel) (by decide +kernel)
theorem k_402 : (Jvm.Cond.selects "PledgeMonitorModel" ({ cls := "PledgeMonitorModel", name := "kind", desc := "(I)I" } : Jvm.MethodName) ({ cls := "PledgeMonitorModel", name := "kind", desc := "(I)I" } : Jvm.MethodName)) ∈ gw := gw_at 36 (by decide +kernel) (by decide +kernel)
theorem k_403 : (Jvm.Cond.code ({ cls := "PledgeMonitorModel", name := "kind", desc := "(I)I" } : Jvm.MethodName) prog_11_method_8_code (3 : Nat) (Option.some Jvm.ClassFile.FieldType.int)) ∈ gw := gw_at 919 (by decide +kernel) (by decide +kernel)
theorem k_404 : (Jvm.Cond.methodLink "PledgeMonitorModel" (79 : Nat) ({ cls := "PledgeMonitorModel", name := "digit", desc := "(I)I" } : Jvm.MethodName)) ∈ gw := gw_at 912 (by decide +kernel) (by decide +kernel)
theorem k_405 : (Jvm.Cond.instanceMethod ({ cls := "PledgeMonitorModel", name := "digit", desc := "(I)I" } : Jvm.MethodName)) ∈ gw := gw_at 914 (by decide +kernel) (by decide +kernel)
theorem k_406 : (Jvm.Cond.selects "PledgeMonitorModel" ({ cls := "PledgeMonitorModel", name := "digit", desc := "(I)I" } : Jvm.MethodName) ({ cls := "PledgeMonitorModel", name := "digit", desc := "(I)I" } : Jvm.MethodName)) ∈ gw := gw_at 35 (by decide +kernel) (by decide +kernel)
theorem k_407 : (Jvm.Cond.code ({ cls := "PledgeMonitorModel", name := "digit", desc := "(I)I" } : Jvm.MethodName) prog_11_method_9_code (3 : Nat) (Option.some Jvm.ClassFile.FieldType.int)) ∈ gw := gw_at 915 (by decide +kernel) (by decide +kernel)
theorem k_408 : (Jvm.Cond.methodLink "PledgeMonitorModel" (85 : Nat) ({ cls := "PledgeMonitorModel", name := "overPair", desc := "(I)I" } : Jvm.MethodName)) ∈ gw := gw_at 924 (by decide +kernel) (by decide +kernel)
theorem k_409 : (Jvm.Cond.instanceMethod ({ cls := "PledgeMonitorModel", name := "overPair", desc := "(I)I" } : Jvm.MethodName)) ∈ gw := gw_at 926 (by decide +kernel) (by decide +kernel)
theorem k_410 : (Jvm.Cond.selects "PledgeMonitorModel" ({ cls := "PledgeMonitorModel", name := "overPair", desc := "(I)I" } : Jvm.MethodName) ({ cls := "PledgeMonitorModel", name := "overPair", desc := "(I)I" } : Jvm.MethodName)) ∈ gw := gw_at 38 (by decide +kernel) (by decide +kernel)
theorem k_411 : (Jvm.Cond.code ({ cls := "PledgeMonitorModel", name := "overPair", desc := "(I)I" } : Jvm.MethodName) prog_11_method_11_code (2 : Nat) (Option.some Jvm.ClassFile.FieldType.int)) ∈ gw := gw_at 927 (by decide +kernel) (by decide +kernel)
theorem k_412 : (Jvm.Cond.methodLink "PledgeMonitorModel" (88 : Nat) ({ cls := "PledgeMonitorModel", name := "readTrigger", desc := "(II)I" } : Jvm.MethodName)) ∈ gw := gw_at 900 (by decide +kernel) (by decide +kernel)
theorem k_413 : (Jvm.Cond.instanceMethod ({ cls := "PledgeMonitorModel", name := "readTrigger", desc := "(II)I" } : Jvm.MethodName)) ∈ gw := gw_at 902 (by decide +kernel) (by decide +kernel)
theorem k_414 : (Jvm.Cond.selects "PledgeMonitorModel" ({ cls := "PledgeMonitorModel", name := "readTrigger", desc := "(II)I" } : Jvm.MethodName) ({ cls := "PledgeMonitorModel", name := "readTrigger", desc := "(II)I" } : Jvm.MethodName)) ∈ gw := gw_at 32 (by decide +kernel) (by decide +kernel)
theorem k_415 : (Jvm.Cond.code ({ cls := "PledgeMonitorModel", name := "readTrigger", desc := "(II)I" } : Jvm.MethodName) prog_11_method_10_code (5 : Nat) (Option.some Jvm.ClassFile.FieldType.int)) ∈ gw := gw_at 903 (by decide +kernel) (by decide +kernel)
theorem k_416 : (Jvm.Cond.methodLink "PledgeMonitorModel" (95 : Nat) ({ cls := "PledgeMonitorModel", name := "readAction", desc := "(II)I" } : Jvm.MethodName)) ∈ gw := gw_at 928 (by decide +kernel) (by decide +kernel)
theorem k_417 : (Jvm.Cond.instanceMethod ({ cls := "PledgeMonitorModel", name := "readAction", desc := "(II)I" } : Jvm.MethodName)) ∈ gw := gw_at 930 (by decide +kernel) (by decide +kernel)
theorem k_418 : (Jvm.Cond.selects "PledgeMonitorModel" ({ cls := "PledgeMonitorModel", name := "readAction", desc := "(II)I" } : Jvm.MethodName) ({ cls := "PledgeMonitorModel", name := "readAction", desc := "(II)I" } : Jvm.MethodName)) ∈ gw := gw_at 39 (by decide +kernel) (by decide +kernel)
theorem k_419 : (Jvm.Cond.code ({ cls := "PledgeMonitorModel", name := "readAction", desc := "(II)I" } : Jvm.MethodName) prog_11_method_13_code (4 : Nat) (Option.some Jvm.ClassFile.FieldType.int)) ∈ gw := gw_at 931 (by decide +kernel) (by decide +kernel)
theorem k_420 : (Jvm.Cond.methodLink "PledgeMonitorModel" (92 : Nat) ({ cls := "PledgeMonitorModel", name := "readBound", desc := "(II)I" } : Jvm.MethodName)) ∈ gw := gw_at 920 (by decide +kernel) (by decide +kernel)
theorem k_421 : (Jvm.Cond.instanceMethod ({ cls := "PledgeMonitorModel", name := "readBound", desc := "(II)I" } : Jvm.MethodName)) ∈ gw := gw_at 922 (by decide +kernel) (by decide +kernel)
theorem k_422 : (Jvm.Cond.selects "PledgeMonitorModel" ({ cls := "PledgeMonitorModel", name := "readBound", desc := "(II)I" } : Jvm.MethodName) ({ cls := "PledgeMonitorModel", name := "readBound", desc := "(II)I" } : Jvm.MethodName)) ∈ gw := gw_at 37 (by decide +kernel) (by decide +kernel)
theorem k_423 : (Jvm.Cond.code ({ cls := "PledgeMonitorModel", name := "readBound", desc := "(II)I" } : Jvm.MethodName) prog_11_method_12_code (4 : Nat) (Option.some Jvm.ClassFile.FieldType.int)) ∈ gw := gw_at 923 (by decide +kernel) (by decide +kernel)
theorem k_424 : (Jvm.Cond.methodLink "PledgeMonitorModel" (98 : Nat) ({ cls := "PledgeMonitorModel", name := "readClause", desc := "(II)I" } : Jvm.MethodName)) ∈ gw := gw_at 896 (by decide +kernel) (by decide +kernel)
theorem k_425 : (Jvm.Cond.instanceMethod ({ cls := "PledgeMonitorModel", name := "readClause", desc := "(II)I" } : Jvm.MethodName)) ∈ gw := gw_at 898 (by decide +kernel) (by decide +kernel)
theorem k_426 : (Jvm.Cond.selects "PledgeMonitorModel" ({ cls := "PledgeMonitorModel", name := "readClause", desc := "(II)I" } : Jvm.MethodName) ({ cls := "PledgeMonitorModel", name := "readClause", desc := "(II)I" } : Jvm.MethodName)) ∈ gw := gw_at 31 (by decide +kernel) (by decide +kernel)
theorem k_427 : (Jvm.Cond.code ({ cls := "PledgeMonitorModel", name := "readClause", desc := "(II)I" } : Jvm.MethodName) prog_11_method_14_code (4 : Nat) (Option.some Jvm.ClassFile.FieldType.int)) ∈ gw := gw_at 899 (by decide +kernel) (by decide +kernel)
theorem k_428 : (Jvm.Cond.methodLink "PledgeMonitorModel" (105 : Nat) ({ cls := "PledgeMonitorModel", name := "goesRound", desc := "(II)Z" } : Jvm.MethodName)) ∈ gw := gw_at 940 (by decide +kernel) (by decide +kernel)
theorem k_429 : (Jvm.Cond.instanceMethod ({ cls := "PledgeMonitorModel", name := "goesRound", desc := "(II)Z" } : Jvm.MethodName)) ∈ gw := gw_at 942 (by decide +kernel) (by decide +kernel)
theorem k_430 : (Jvm.Cond.selects "PledgeMonitorModel" ({ cls := "PledgeMonitorModel", name := "goesRound", desc := "(II)Z" } : Jvm.MethodName) ({ cls := "PledgeMonitorModel", name := "goesRound", desc := "(II)Z" } : Jvm.MethodName)) ∈ gw := gw_at 42 (by decide +kernel) (by decide +kernel)
theorem k_431 : (Jvm.Cond.code ({ cls := "PledgeMonitorModel", name := "goesRound", desc := "(II)Z" } : Jvm.MethodName) prog_11_method_17_code (6 : Nat) (Option.some Jvm.ClassFile.FieldType.boolean)) ∈ gw := gw_at 943 (by decide +kernel) (by decide +kernel)
theorem k_432 : (Jvm.Cond.methodLink "PledgeMonitorModel" (101 : Nat) ({ cls := "PledgeMonitorModel", name := "refersWell", desc := "(III)Z" } : Jvm.MethodName)) ∈ gw := gw_at 936 (by decide +kernel) (by decide +kernel)
theorem k_433 : (Jvm.Cond.instanceMethod ({ cls := "PledgeMonitorModel", name := "refersWell", desc := "(III)Z" } : Jvm.MethodName)) ∈ gw := gw_at 938 (by decide +kernel) (by decide +kernel)
theorem k_434 : (Jvm.Cond.selects "PledgeMonitorModel" ({ cls := "PledgeMonitorModel", name := "refersWell", desc := "(III)Z" } : Jvm.MethodName) ({ cls := "PledgeMonitorModel", name := "refersWell", desc := "(III)Z" } : Jvm.MethodName)) ∈ gw := gw_at 41 (by decide +kernel) (by decide +kernel)
theorem k_435 : (Jvm.Cond.code ({ cls := "PledgeMonitorModel", name := "refersWell", desc := "(III)Z" } : Jvm.MethodName) prog_11_method_16_code (7 : Nat) (Option.some Jvm.ClassFile.FieldType.boolean)) ∈ gw := gw_at 939 (by decide +kernel) (by decide +kernel)
theorem k_436 : (Jvm.Cond.fieldLink "PledgeMonitorModel" (109 : Nat) "PledgeMonitorModel" "full" "Z") ∈ gw := gw_at 815 (by decide +kernel) (by decide +kernel)
theorem k_437 : (Jvm.Cond.fieldLink "PledgeMonitorModel" (112 : Nat) "PledgeMonitorModel" "bank" "I") ∈ gw := gw_at 797 (by decide +kernel) (by decide +kernel)
theorem k_438 : (Jvm.Cond.methodLink "PledgeMonitorModel" (115 : Nat) ({ cls := "PledgeMonitorModel", name := "clauseAt", desc := "(III)I" } : Jvm.MethodName)) ∈ gw := gw_at 998 (by decide +kernel) (by decide +kernel)
theorem k_439 : (Jvm.Cond.instanceMethod ({ cls := "PledgeMonitorModel", name := "clauseAt", desc := "(III)I" } : Jvm.MethodName)) ∈ gw := gw_at 1000 (by decide +kernel) (by decide +kernel)
theorem k_440 : (Jvm.Cond.selects "PledgeMonitorModel" ({ cls := "PledgeMonitorModel", name := "clauseAt", desc := "(III)I" } : Jvm.MethodName) ({ cls := "PledgeMonitorModel", name := "clauseAt", desc := "(III)I" } : Jvm.MethodName)) ∈ gw := gw_at 52 (by decide +kernel) (by decide +kernel)
theorem k_441 : (Jvm.Cond.code ({ cls := "PledgeMonitorModel", name := "clauseAt", desc := "(III)I" } : Jvm.MethodName) prog_11_method_23_code (4 : Nat) (Option.some Jvm.ClassFile.FieldType.int)) ∈ gw := gw_at 1001 (by decide +kernel) (by decide +kernel)
theorem k_442 : (Jvm.Cond.methodLink "PledgeMonitorModel" (119 : Nat) ({ cls := "PledgeMonitorModel", name := "isOf", desc := "(III)Z" } : Jvm.MethodName)) ∈ gw := gw_at 1002 (by decide +kernel) (by decide +kernel)
theorem k_443 : (Jvm.Cond.instanceMethod ({ cls := "PledgeMonitorModel", name := "isOf", desc := "(III)Z" } : Jvm.MethodName)) ∈ gw := gw_at 1004 (by decide +kernel) (by decide +kernel)
theorem k_444 : (Jvm.Cond.selects "PledgeMonitorModel" ({ cls := "PledgeMonitorModel", name := "isOf", desc := "(III)Z" } : Jvm.MethodName) ({ cls := "PledgeMonitorModel", name := "isOf", desc := "(III)Z" } : Jvm.MethodName)) ∈ gw := gw_at 53 (by decide +kernel) (by decide +kernel)
theorem k_445 : (Jvm.Cond.code ({ cls := "PledgeMonitorModel", name := "isOf", desc := "(III)Z" } : Jvm.MethodName) prog_11_method_25_code (4 : Nat) (Option.some Jvm.ClassFile.FieldType.boolean)) ∈ gw := gw_at 1005 (by decide +kernel) (by decide +kernel)
theorem k_446 : (Jvm.Cond.methodLink "PledgeMonitorModel" (122 : Nat) ({ cls := "PledgeMonitorModel", name := "dayAt", desc := "(III)I" } : Jvm.MethodName)) ∈ gw := gw_at 1006 (by decide +kernel) (by decide +kernel)
theorem k_447 : (Jvm.Cond.instanceMethod ({ cls := "PledgeMonitorModel", name := "dayAt", desc := "(III)I" } : Jvm.MethodName)) ∈ gw := gw_at 1008 (by decide +kernel) (by decide +kernel)
theorem k_448 : (Jvm.Cond.selects "PledgeMonitorModel" ({ cls := "PledgeMonitorModel", name := "dayAt", desc := "(III)I" } : Jvm.MethodName) ({ cls := "PledgeMonitorModel", name := "dayAt", desc := "(III)I" } : Jvm.MethodName)) ∈ gw := gw_at 54 (by decide +kernel) (by decide +kernel)
theorem k_449 : (Jvm.Cond.code ({ cls := "PledgeMonitorModel", name := "dayAt", desc := "(III)I" } : Jvm.MethodName) prog_11_method_24_code (4 : Nat) (Option.some Jvm.ClassFile.FieldType.int)) ∈ gw := gw_at 1009 (by decide +kernel) (by decide +kernel)
theorem k_450 : (Jvm.Cond.fieldLink "PledgeMonitorModel" (125 : Nat) "PledgeMonitorModel" "clauses" "I") ∈ gw := gw_at 799 (by decide +kernel) (by decide +kernel)
theorem k_451 : (Jvm.Cond.fieldLink "PledgeMonitorModel" (128 : Nat) "PledgeMonitorModel" "waiting" "I") ∈ gw := gw_at 813 (by decide +kernel) (by decide +kernel)
theorem k_452 : (Jvm.Cond.fieldLink "PledgeMonitorModel" (131 : Nat) "PledgeMonitorModel" "made" "I") ∈ gw := gw_at 816 (by decide +kernel) (by decide +kernel)
theorem k_453 : (Jvm.Cond.fieldLink "PledgeMonitorModel" (134 : Nat) "PledgeMonitorModel" "blamed" "I") ∈ gw := gw_at 817 (by decide +kernel) (by decide +kernel)
theorem k_454 : (Jvm.Cond.methodLink "PledgeMonitorModel" (137 : Nat) ({ cls := "PledgeMonitorModel", name := "await", desc := "(III)V" } : Jvm.MethodName)) ∈ gw := gw_at 948 (by decide +kernel) (by decide +kernel)
theorem k_455 : (Jvm.Cond.instanceMethod ({ cls := "PledgeMonitorModel", name := "await", desc := "(III)V" } : Jvm.MethodName)) ∈ gw := gw_at 950 (by decide +kernel) (by decide +kernel)
theorem k_456 : (Jvm.Cond.selects "PledgeMonitorModel" ({ cls := "PledgeMonitorModel", name := "await", desc := "(III)V" } : Jvm.MethodName) ({ cls := "PledgeMonitorModel", name := "await", desc := "(III)V" } : Jvm.MethodName)) ∈ gw := gw_at 44 (by decide +kernel) (by decide +kernel)
theorem k_457 : (Jvm.Cond.code ({ cls := "PledgeMonitorModel", name := "await", desc := "(III)V" } : Jvm.MethodName) prog_11_method_27_code (7 : Nat) (Option.none : Option Jvm.ClassFile.FieldType)) ∈ gw := gw_at 951 (by decide +kernel) (by decide +kernel)
theorem k_458 : (Jvm.Cond.methodLink "PledgeMonitorModel" (144 : Nat) ({ cls := "PledgeMonitorModel", name := "put", desc := "(IIII)V" } : Jvm.MethodName)) ∈ gw := gw_at 964 (by decide +kernel) (by decide +kernel)
theorem k_459 : (Jvm.Cond.instanceMethod ({ cls := "PledgeMonitorModel", name := "put", desc := "(IIII)V" } : Jvm.MethodName)) ∈ gw := gw_at 966 (by decide +kernel) (by decide +kernel)
theorem k_460 : (Jvm.Cond.selects "PledgeMonitorModel" ({ cls := "PledgeMonitorModel", name := "put", desc := "(IIII)V" } : Jvm.MethodName) ({ cls := "PledgeMonitorModel", name := "put", desc := "(IIII)V" } : Jvm.MethodName)) ∈ gw := gw_at 48 (by decide +kernel) (by decide +kernel)
theorem k_461 : (Jvm.Cond.code ({ cls := "PledgeMonitorModel", name := "put", desc := "(IIII)V" } : Jvm.MethodName) prog_11_method_21_code (6 : Nat) (Option.none : Option Jvm.ClassFile.FieldType)) ∈ gw := gw_at 967 (by decide +kernel) (by decide +kernel)
theorem k_462 : (Jvm.Cond.methodLink "PledgeMonitorModel" (141 : Nat) ({ cls := "PledgeMonitorModel", name := "dayAfter", desc := "(II)I" } : Jvm.MethodName)) ∈ gw := gw_at 960 (by decide +kernel) (by decide +kernel)
theorem k_463 : (Jvm.Cond.instanceMethod ({ cls := "PledgeMonitorModel", name := "dayAfter", desc := "(II)I" } : Jvm.MethodName)) ∈ gw := gw_at 962 (by decide +kernel) (by decide +kernel)
theorem k_464 : (Jvm.Cond.selects "PledgeMonitorModel" ({ cls := "PledgeMonitorModel", name := "dayAfter", desc := "(II)I" } : Jvm.MethodName) ({ cls := "PledgeMonitorModel", name := "dayAfter", desc := "(II)I" } : Jvm.MethodName)) ∈ gw := gw_at 47 (by decide +kernel) (by decide +kernel)
theorem k_465 : (Jvm.Cond.code ({ cls := "PledgeMonitorModel", name := "dayAfter", desc := "(II)I" } : Jvm.MethodName) prog_11_method_20_code (5 : Nat) (Option.some Jvm.ClassFile.FieldType.int)) ∈ gw := gw_at 963 (by decide +kernel) (by decide +kernel)
theorem k_466 : (Jvm.Cond.methodLink "PledgeMonitorModel" (148 : Nat) ({ cls := "PledgeMonitorModel", name := "act", desc := "(II)V" } : Jvm.MethodName)) ∈ gw := gw_at 956 (by decide +kernel) (by decide +kernel)
theorem k_467 : (Jvm.Cond.instanceMethod ({ cls := "PledgeMonitorModel", name := "act", desc := "(II)V" } : Jvm.MethodName)) ∈ gw := gw_at 958 (by decide +kernel) (by decide +kernel)
theorem k_468 : (Jvm.Cond.selects "PledgeMonitorModel" ({ cls := "PledgeMonitorModel", name := "act", desc := "(II)V" } : Jvm.MethodName) ({ cls := "PledgeMonitorModel", name := "act", desc := "(II)V" } : Jvm.MethodName)) ∈ gw := gw_at 46 (by decide +kernel) (by decide +kernel)
theorem k_469 : (Jvm.Cond.code ({ cls := "PledgeMonitorModel", name := "act", desc := "(II)V" } : Jvm.MethodName) prog_11_method_29_code (7 : Nat) (Option.none : Option Jvm.ClassFile.FieldType)) ∈ gw := gw_at 959 (by decide +kernel) (by decide +kernel)
theorem k_470 : (Jvm.Cond.methodLink "PledgeMonitorModel" (152 : Nat) ({ cls := "PledgeMonitorModel", name := "start", desc := "()V" } : Jvm.MethodName)) ∈ gw := gw_at 944 (by decide +kernel) (by decide +kernel)
theorem k_471 : (Jvm.Cond.instanceMethod ({ cls := "PledgeMonitorModel", name := "start", desc := "()V" } : Jvm.MethodName)) ∈ gw := gw_at 946 (by decide +kernel) (by decide +kernel)
theorem k_472 : (Jvm.Cond.selects "PledgeMonitorModel" ({ cls := "PledgeMonitorModel", name := "start", desc := "()V" } : Jvm.MethodName) ({ cls := "PledgeMonitorModel", name := "start", desc := "()V" } : Jvm.MethodName)) ∈ gw := gw_at 43 (by decide +kernel) (by decide +kernel)
theorem k_473 : (Jvm.Cond.code ({ cls := "PledgeMonitorModel", name := "start", desc := "()V" } : Jvm.MethodName) prog_11_method_31_code (1 : Nat) (Option.none : Option Jvm.ClassFile.FieldType)) ∈ gw := gw_at 947 (by decide +kernel) (by decide +kernel)
theorem k_474 : (Jvm.Cond.methodLink "PledgeMonitorModel" (155 : Nat) ({ cls := "PledgeMonitorModel", name := "first", desc := "(IIII)I" } : Jvm.MethodName)) ∈ gw := gw_at 994 (by decide +kernel) (by decide +kernel)
theorem k_475 : (Jvm.Cond.instanceMethod ({ cls := "PledgeMonitorModel", name := "first", desc := "(IIII)I" } : Jvm.MethodName)) ∈ gw := gw_at 996 (by decide +kernel) (by decide +kernel)
theorem k_476 : (Jvm.Cond.selects "PledgeMonitorModel" ({ cls := "PledgeMonitorModel", name := "first", desc := "(IIII)I" } : Jvm.MethodName) ({ cls := "PledgeMonitorModel", name := "first", desc := "(IIII)I" } : Jvm.MethodName)) ∈ gw := gw_at 51 (by decide +kernel) (by decide +kernel)
theorem k_477 : (Jvm.Cond.code ({ cls := "PledgeMonitorModel", name := "first", desc := "(IIII)I" } : Jvm.MethodName) prog_11_method_26_code (9 : Nat) (Option.some Jvm.ClassFile.FieldType.int)) ∈ gw := gw_at 997 (by decide +kernel) (by decide +kernel)
theorem k_478 : (Jvm.Cond.methodLink "PledgeMonitorModel" (165 : Nat) ({ cls := "PledgeMonitorModel", name := "run", desc := "(I)V" } : Jvm.MethodName)) ∈ gw := gw_at 952 (by decide +kernel) (by decide +kernel)
theorem k_479 : (Jvm.Cond.instanceMethod ({ cls := "PledgeMonitorModel", name := "run", desc := "(I)V" } : Jvm.MethodName)) ∈ gw := gw_at 954 (by decide +kernel) (by decide +kernel)
theorem k_480 : (Jvm.Cond.selects "PledgeMonitorModel" ({ cls := "PledgeMonitorModel", name := "run", desc := "(I)V" } : Jvm.MethodName) ({ cls := "PledgeMonitorModel", name := "run", desc := "(I)V" } : Jvm.MethodName)) ∈ gw := gw_at 45 (by decide +kernel) (by decide +kernel)
theorem k_481 : (Jvm.Cond.code ({ cls := "PledgeMonitorModel", name := "run", desc := "(I)V" } : Jvm.MethodName) prog_11_method_30_code (5 : Nat) (Option.none : Option Jvm.ClassFile.FieldType)) ∈ gw := gw_at 955 (by decide +kernel) (by decide +kernel)
theorem k_482 : (Jvm.Cond.methodLink "PledgeMonitorModel" (159 : Nat) ({ cls := "PledgeMonitorModel", name := "takeOut", desc := "(III)V" } : Jvm.MethodName)) ∈ gw := gw_at 1010 (by decide +kernel) (by decide +kernel)
theorem k_483 : (Jvm.Cond.instanceMethod ({ cls := "PledgeMonitorModel", name := "takeOut", desc := "(III)V" } : Jvm.MethodName)) ∈ gw := gw_at 1012 (by decide +kernel) (by decide +kernel)
theorem k_484 : (Jvm.Cond.selects "PledgeMonitorModel" ({ cls := "PledgeMonitorModel", name := "takeOut", desc := "(III)V" } : Jvm.MethodName) ({ cls := "PledgeMonitorModel", name := "takeOut", desc := "(III)V" } : Jvm.MethodName)) ∈ gw := gw_at 55 (by decide +kernel) (by decide +kernel)
theorem k_485 : (Jvm.Cond.code ({ cls := "PledgeMonitorModel", name := "takeOut", desc := "(III)V" } : Jvm.MethodName) prog_11_method_22_code (6 : Nat) (Option.none : Option Jvm.ClassFile.FieldType)) ∈ gw := gw_at 1013 (by decide +kernel) (by decide +kernel)
theorem k_486 : (Jvm.Cond.methodLink "PledgeMonitorModel" (162 : Nat) ({ cls := "PledgeMonitorModel", name := "breach", desc := "(II)V" } : Jvm.MethodName)) ∈ gw := gw_at 1014 (by decide +kernel) (by decide +kernel)
theorem k_487 : (Jvm.Cond.instanceMethod ({ cls := "PledgeMonitorModel", name := "breach", desc := "(II)V" } : Jvm.MethodName)) ∈ gw := gw_at 1016 (by decide +kernel) (by decide +kernel)
theorem k_488 : (Jvm.Cond.selects "PledgeMonitorModel" ({ cls := "PledgeMonitorModel", name := "breach", desc := "(II)V" } : Jvm.MethodName) ({ cls := "PledgeMonitorModel", name := "breach", desc := "(II)V" } : Jvm.MethodName)) ∈ gw := gw_at 56 (by decide +kernel) (by decide +kernel)
theorem k_489 : (Jvm.Cond.code ({ cls := "PledgeMonitorModel", name := "breach", desc := "(II)V" } : Jvm.MethodName) prog_11_method_28_code (4 : Nat) (Option.none : Option Jvm.ClassFile.FieldType)) ∈ gw := gw_at 1017 (by decide +kernel) (by decide +kernel)
theorem k_490 : (Jvm.Cond.methodLink "PledgeMonitorModel" (169 : Nat) ({ cls := "PledgeMonitorModel", name := "passOver", desc := "(II)V" } : Jvm.MethodName)) ∈ gw := gw_at 1030 (by decide +kernel) (by decide +kernel)
theorem k_491 : (Jvm.Cond.instanceMethod ({ cls := "PledgeMonitorModel", name := "passOver", desc := "(II)V" } : Jvm.MethodName)) ∈ gw := gw_at 1032 (by decide +kernel) (by decide +kernel)
theorem k_492 : (Jvm.Cond.selects "PledgeMonitorModel" ({ cls := "PledgeMonitorModel", name := "passOver", desc := "(II)V" } : Jvm.MethodName) ({ cls := "PledgeMonitorModel", name := "passOver", desc := "(II)V" } : Jvm.MethodName)) ∈ gw := gw_at 59 (by decide +kernel) (by decide +kernel)
theorem k_493 : (Jvm.Cond.code ({ cls := "PledgeMonitorModel", name := "passOver", desc := "(II)V" } : Jvm.MethodName) prog_11_method_33_code (4 : Nat) (Option.none : Option Jvm.ClassFile.FieldType)) ∈ gw := gw_at 1033 (by decide +kernel) (by decide +kernel)
theorem k_494 : (Jvm.Cond.methodLink "PledgeMonitorModel" (172 : Nat) ({ cls := "PledgeMonitorModel", name := "readAll", desc := "(I)I" } : Jvm.MethodName)) ∈ gw := gw_at 892 (by decide +kernel) (by decide +kernel)
theorem k_495 : (Jvm.Cond.instanceMethod ({ cls := "PledgeMonitorModel", name := "readAll", desc := "(I)I" } : Jvm.MethodName)) ∈ gw := gw_at 894 (by decide +kernel) (by decide +kernel)
theorem k_496 : (Jvm.Cond.selects "PledgeMonitorModel" ({ cls := "PledgeMonitorModel", name := "readAll", desc := "(I)I" } : Jvm.MethodName) ({ cls := "PledgeMonitorModel", name := "readAll", desc := "(I)I" } : Jvm.MethodName)) ∈ gw := gw_at 30 (by decide +kernel) (by decide +kernel)
theorem k_497 : (Jvm.Cond.code ({ cls := "PledgeMonitorModel", name := "readAll", desc := "(I)I" } : Jvm.MethodName) prog_11_method_15_code (5 : Nat) (Option.some Jvm.ClassFile.FieldType.int)) ∈ gw := gw_at 895 (by decide +kernel) (by decide +kernel)
theorem k_498 : (Jvm.Cond.methodLink "PledgeMonitorModel" (175 : Nat) ({ cls := "PledgeMonitorModel", name := "faultOf", desc := "(II)I" } : Jvm.MethodName)) ∈ gw := gw_at 932 (by decide +kernel) (by decide +kernel)
theorem k_499 : (Jvm.Cond.instanceMethod ({ cls := "PledgeMonitorModel", name := "faultOf", desc := "(II)I" } : Jvm.MethodName)) ∈ gw := gw_at 934 (by decide +kernel) (by decide +kernel)
theorem k_500 : (Jvm.Cond.selects "PledgeMonitorModel" ({ cls := "PledgeMonitorModel", name := "faultOf", desc := "(II)I" } : Jvm.MethodName) ({ cls := "PledgeMonitorModel", name := "faultOf", desc := "(II)I" } : Jvm.MethodName)) ∈ gw := gw_at 40 (by decide +kernel) (by decide +kernel)
theorem k_501 : (Jvm.Cond.code ({ cls := "PledgeMonitorModel", name := "faultOf", desc := "(II)I" } : Jvm.MethodName) prog_11_method_18_code (4 : Nat) (Option.some Jvm.ClassFile.FieldType.int)) ∈ gw := gw_at 935 (by decide +kernel) (by decide +kernel)
theorem k_502 : (Jvm.Cond.methodLink "PledgeMonitorModel" (178 : Nat) ({ cls := "PledgeMonitorModel", name := "copy", desc := "(II)V" } : Jvm.MethodName)) ∈ gw := gw_at 968 (by decide +kernel) (by decide +kernel)
theorem k_503 : (Jvm.Cond.instanceMethod ({ cls := "PledgeMonitorModel", name := "copy", desc := "(II)V" } : Jvm.MethodName)) ∈ gw := gw_at 970 (by decide +kernel) (by decide +kernel)
theorem k_504 : (Jvm.Cond.selects "PledgeMonitorModel" ({ cls := "PledgeMonitorModel", name := "copy", desc := "(II)V" } : Jvm.MethodName) ({ cls := "PledgeMonitorModel", name := "copy", desc := "(II)V" } : Jvm.MethodName)) ∈ gw := gw_at 49 (by decide +kernel) (by decide +kernel)
theorem k_505 : (Jvm.Cond.code ({ cls := "PledgeMonitorModel", name := "copy", desc := "(II)V" } : Jvm.MethodName) prog_11_method_19_code (4 : Nat) (Option.none : Option Jvm.ClassFile.FieldType)) ∈ gw := gw_at 971 (by decide +kernel) (by decide +kernel)
theorem k_506 : (Jvm.Cond.fieldLink "PledgeMonitorModel" (181 : Nat) "PledgeMonitorModel" "kept" "I") ∈ gw := gw_at 812 (by decide +kernel) (by decide +kernel)
theorem k_507 : (Jvm.Cond.methodLink "PledgeMonitorModel" (191 : Nat) ({ cls := "PledgeMonitorModel", name := "eventIn", desc := "(III)V" } : Jvm.MethodName)) ∈ gw := gw_at 990 (by decide +kernel) (by decide +kernel)
theorem k_508 : (Jvm.Cond.instanceMethod ({ cls := "PledgeMonitorModel", name := "eventIn", desc := "(III)V" } : Jvm.MethodName)) ∈ gw := gw_at 992 (by decide +kernel) (by decide +kernel)
theorem k_509 : (Jvm.Cond.selects "PledgeMonitorModel" ({ cls := "PledgeMonitorModel", name := "eventIn", desc := "(III)V" } : Jvm.MethodName) ({ cls := "PledgeMonitorModel", name := "eventIn", desc := "(III)V" } : Jvm.MethodName)) ∈ gw := gw_at 50 (by decide +kernel) (by decide +kernel)
theorem k_510 : (Jvm.Cond.code ({ cls := "PledgeMonitorModel", name := "eventIn", desc := "(III)V" } : Jvm.MethodName) prog_11_method_32_code (7 : Nat) (Option.none : Option Jvm.ClassFile.FieldType)) ∈ gw := gw_at 993 (by decide +kernel) (by decide +kernel)
theorem k_511 : (Jvm.Cond.methodLink "PledgeMonitorModel" (194 : Nat) ({ cls := "PledgeMonitorModel", name := "settle", desc := "()I" } : Jvm.MethodName)) ∈ gw := gw_at 1018 (by decide +kernel) (by decide +kernel)
theorem k_512 : (Jvm.Cond.instanceMethod ({ cls := "PledgeMonitorModel", name := "settle", desc := "()I" } : Jvm.MethodName)) ∈ gw := gw_at 1020 (by decide +kernel) (by decide +kernel)
theorem k_513 : (Jvm.Cond.selects "PledgeMonitorModel" ({ cls := "PledgeMonitorModel", name := "settle", desc := "()I" } : Jvm.MethodName) ({ cls := "PledgeMonitorModel", name := "settle", desc := "()I" } : Jvm.MethodName)) ∈ gw := gw_at 57 (by decide +kernel) (by decide +kernel)
theorem k_514 : (Jvm.Cond.code ({ cls := "PledgeMonitorModel", name := "settle", desc := "()I" } : Jvm.MethodName) prog_11_method_38_code (2 : Nat) (Option.some Jvm.ClassFile.FieldType.int)) ∈ gw := gw_at 1021 (by decide +kernel) (by decide +kernel)
theorem k_515 : (Jvm.Cond.methodLink "PledgeMonitorModel" (184 : Nat) ({ cls := "PledgeMonitorModel", name := "isParty", desc := "(I)Z" } : Jvm.MethodName)) ∈ gw := gw_at 984 (by decide +kernel) (by decide +kernel)
theorem k_516 : (Jvm.Cond.static ({ cls := "PledgeMonitorModel", name := "isParty", desc := "(I)Z" } : Jvm.MethodName)) ∈ gw := gw_at 985 (by decide +kernel) (by decide +kernel)
theorem k_517 : (Jvm.Cond.code ({ cls := "PledgeMonitorModel", name := "isParty", desc := "(I)Z" } : Jvm.MethodName) prog_11_method_39_code (1 : Nat) (Option.some Jvm.ClassFile.FieldType.boolean)) ∈ gw := gw_at 986 (by decide +kernel) (by decide +kernel)
theorem k_518 : (Jvm.Cond.methodLink "PledgeMonitorModel" (188 : Nat) ({ cls := "PledgeMonitorModel", name := "isKind", desc := "(I)Z" } : Jvm.MethodName)) ∈ gw := gw_at 987 (by decide +kernel) (by decide +kernel)
theorem k_519 : (Jvm.Cond.static ({ cls := "PledgeMonitorModel", name := "isKind", desc := "(I)Z" } : Jvm.MethodName)) ∈ gw := gw_at 988 (by decide +kernel) (by decide +kernel)
theorem k_520 : (Jvm.Cond.code ({ cls := "PledgeMonitorModel", name := "isKind", desc := "(I)Z" } : Jvm.MethodName) prog_11_method_40_code (1 : Nat) (Option.some Jvm.ClassFile.FieldType.boolean)) ∈ gw := gw_at 989 (by decide +kernel) (by decide +kernel)
theorem k_521 : (Jvm.Cond.methodLink "PledgeMonitorModel" (198 : Nat) ({ cls := "PledgeMonitorModel", name := "endIn", desc := "(I)V" } : Jvm.MethodName)) ∈ gw := gw_at 1026 (by decide +kernel) (by decide +kernel)
theorem k_522 : (Jvm.Cond.instanceMethod ({ cls := "PledgeMonitorModel", name := "endIn", desc := "(I)V" } : Jvm.MethodName)) ∈ gw := gw_at 1028 (by decide +kernel) (by decide +kernel)
theorem k_523 : (Jvm.Cond.selects "PledgeMonitorModel" ({ cls := "PledgeMonitorModel", name := "endIn", desc := "(I)V" } : Jvm.MethodName) ({ cls := "PledgeMonitorModel", name := "endIn", desc := "(I)V" } : Jvm.MethodName)) ∈ gw := gw_at 58 (by decide +kernel) (by decide +kernel)
theorem k_524 : (Jvm.Cond.code ({ cls := "PledgeMonitorModel", name := "endIn", desc := "(I)V" } : Jvm.MethodName) prog_11_method_34_code (4 : Nat) (Option.none : Option Jvm.ClassFile.FieldType)) ∈ gw := gw_at 1029 (by decide +kernel) (by decide +kernel)
theorem k_525 : (Jvm.Cond.methodLink "PledgeMonitorModel" (201 : Nat) ({ cls := "PledgeMonitorModel", name := "goes", desc := "(IIII)Z" } : Jvm.MethodName)) ∈ gw := gw_at 1074 (by decide +kernel) (by decide +kernel)
theorem k_526 : (Jvm.Cond.instanceMethod ({ cls := "PledgeMonitorModel", name := "goes", desc := "(IIII)Z" } : Jvm.MethodName)) ∈ gw := gw_at 1076 (by decide +kernel) (by decide +kernel)
theorem k_527 : (Jvm.Cond.selects "PledgeMonitorModel" ({ cls := "PledgeMonitorModel", name := "goes", desc := "(IIII)Z" } : Jvm.MethodName) ({ cls := "PledgeMonitorModel", name := "goes", desc := "(IIII)Z" } : Jvm.MethodName)) ∈ gw := gw_at 62 (by decide +kernel) (by decide +kernel)
theorem k_528 : (Jvm.Cond.code ({ cls := "PledgeMonitorModel", name := "goes", desc := "(IIII)Z" } : Jvm.MethodName) prog_11_method_50_code (8 : Nat) (Option.some Jvm.ClassFile.FieldType.boolean)) ∈ gw := gw_at 1077 (by decide +kernel) (by decide +kernel)
theorem k_529 : (Jvm.Cond.methodLink "PledgeMonitorModel" (205 : Nat) ({ cls := "PledgeMonitorModel", name := "hasOne", desc := "(III)Z" } : Jvm.MethodName)) ∈ gw := gw_at 1078 (by decide +kernel) (by decide +kernel)
theorem k_530 : (Jvm.Cond.instanceMethod ({ cls := "PledgeMonitorModel", name := "hasOne", desc := "(III)Z" } : Jvm.MethodName)) ∈ gw := gw_at 1080 (by decide +kernel) (by decide +kernel)
theorem k_531 : (Jvm.Cond.selects "PledgeMonitorModel" ({ cls := "PledgeMonitorModel", name := "hasOne", desc := "(III)Z" } : Jvm.MethodName) ({ cls := "PledgeMonitorModel", name := "hasOne", desc := "(III)Z" } : Jvm.MethodName)) ∈ gw := gw_at 63 (by decide +kernel) (by decide +kernel)
theorem k_532 : (Jvm.Cond.code ({ cls := "PledgeMonitorModel", name := "hasOne", desc := "(III)Z" } : Jvm.MethodName) prog_11_method_51_code (6 : Nat) (Option.some Jvm.ClassFile.FieldType.boolean)) ∈ gw := gw_at 1081 (by decide +kernel) (by decide +kernel)
theorem k_533 : (Jvm.Cond.methodLink "PledgeMonitorModel" (208 : Nat) ({ cls := "PledgeMonitorModel", name := "askCode", desc := "(II)I" } : Jvm.MethodName)) ∈ gw := gw_at 1066 (by decide +kernel) (by decide +kernel)
theorem k_534 : (Jvm.Cond.instanceMethod ({ cls := "PledgeMonitorModel", name := "askCode", desc := "(II)I" } : Jvm.MethodName)) ∈ gw := gw_at 1068 (by decide +kernel) (by decide +kernel)
theorem k_535 : (Jvm.Cond.selects "PledgeMonitorModel" ({ cls := "PledgeMonitorModel", name := "askCode", desc := "(II)I" } : Jvm.MethodName) ({ cls := "PledgeMonitorModel", name := "askCode", desc := "(II)I" } : Jvm.MethodName)) ∈ gw := gw_at 60 (by decide +kernel) (by decide +kernel)
theorem k_536 : (Jvm.Cond.code ({ cls := "PledgeMonitorModel", name := "askCode", desc := "(II)I" } : Jvm.MethodName) prog_11_method_53_code (3 : Nat) (Option.some Jvm.ClassFile.FieldType.int)) ∈ gw := gw_at 1069 (by decide +kernel) (by decide +kernel)
theorem k_537 : (Jvm.Cond.methodLink "PledgeMonitorModel" (211 : Nat) ({ cls := "PledgeMonitorModel", name := "firstCourse", desc := "(III)I" } : Jvm.MethodName)) ∈ gw := gw_at 1070 (by decide +kernel) (by decide +kernel)
theorem k_538 : (Jvm.Cond.instanceMethod ({ cls := "PledgeMonitorModel", name := "firstCourse", desc := "(III)I" } : Jvm.MethodName)) ∈ gw := gw_at 1072 (by decide +kernel) (by decide +kernel)
theorem k_539 : (Jvm.Cond.selects "PledgeMonitorModel" ({ cls := "PledgeMonitorModel", name := "firstCourse", desc := "(III)I" } : Jvm.MethodName) ({ cls := "PledgeMonitorModel", name := "firstCourse", desc := "(III)I" } : Jvm.MethodName)) ∈ gw := gw_at 61 (by decide +kernel) (by decide +kernel)
theorem k_540 : (Jvm.Cond.code ({ cls := "PledgeMonitorModel", name := "firstCourse", desc := "(III)I" } : Jvm.MethodName) prog_11_method_52_code (5 : Nat) (Option.some Jvm.ClassFile.FieldType.int)) ∈ gw := gw_at 1073 (by decide +kernel) (by decide +kernel)
theorem k_541 : (Jvm.Cond.methodLink "PledgeMonitor$Search" (39 : Nat) ({ cls := "PledgeMonitor$Agreement", name := "hasDutyDue", desc := "(LPledgeMonitor$State;I)Z" } : Jvm.MethodName)) ∈ gw := gw_at 759 (by decide +kernel) (by decide +kernel)
theorem k_542 : (Jvm.Cond.instanceMethod ({ cls := "PledgeMonitor$Agreement", name := "hasDutyDue", desc := "(LPledgeMonitor$State;I)Z" } : Jvm.MethodName)) ∈ gw := gw_at 760 (by decide +kernel) (by decide +kernel)
theorem k_543 : (Jvm.Cond.selects "PledgeMonitor$Agreement" ({ cls := "PledgeMonitor$Agreement", name := "hasDutyDue", desc := "(LPledgeMonitor$State;I)Z" } : Jvm.MethodName) ({ cls := "PledgeMonitor$Agreement", name := "hasDutyDue", desc := "(LPledgeMonitor$State;I)Z" } : Jvm.MethodName)) ∈ gw := gw_at 761 (by decide +kernel) (by decide +kernel)
theorem k_544 : (Jvm.Cond.code ({ cls := "PledgeMonitor$Agreement", name := "hasDutyDue", desc := "(LPledgeMonitor$State;I)Z" } : Jvm.MethodName) prog_2_method_4_code (4 : Nat) (Option.some Jvm.ClassFile.FieldType.boolean)) ∈ gw := gw_at 762 (by decide +kernel) (by decide +kernel)
theorem k_545 : (Jvm.Cond.methodLink "PledgeMonitor$Search" (49 : Nat) ({ cls := "PledgeMonitor$Runner", name := "endDay", desc := "(LPledgeMonitor$Agreement;LPledgeMonitor$State;)I" } : Jvm.MethodName)) ∈ gw := gw_at 765 (by decide +kernel) (by decide +kernel)
theorem k_546 : (Jvm.Cond.instanceMethod ({ cls := "PledgeMonitor$Runner", name := "endDay", desc := "(LPledgeMonitor$Agreement;LPledgeMonitor$State;)I" } : Jvm.MethodName)) ∈ gw := gw_at 732 (by decide +kernel) (by decide +kernel)
theorem k_547 : (Jvm.Cond.selects "PledgeMonitor$Runner" ({ cls := "PledgeMonitor$Runner", name := "endDay", desc := "(LPledgeMonitor$Agreement;LPledgeMonitor$State;)I" } : Jvm.MethodName) ({ cls := "PledgeMonitor$Runner", name := "endDay", desc := "(LPledgeMonitor$Agreement;LPledgeMonitor$State;)I" } : Jvm.MethodName)) ∈ gw := gw_at 733 (by decide +kernel) (by decide +kernel)
theorem k_548 : (Jvm.Cond.code ({ cls := "PledgeMonitor$Runner", name := "endDay", desc := "(LPledgeMonitor$Agreement;LPledgeMonitor$State;)I" } : Jvm.MethodName) prog_5_method_4_code (6 : Nat) (Option.some Jvm.ClassFile.FieldType.int)) ∈ gw := gw_at 734 (by decide +kernel) (by decide +kernel)
theorem k_549 : (Jvm.Cond.methodLink "PledgeMonitor$Search" (53 : Nat) ({ cls := "PledgeMonitor$Search", name := "firstCourse", desc := "(LPledgeMonitor$Agreement;LPledgeMonitor$State;II)I" } : Jvm.MethodName)) ∈ gw := gw_at 766 (by decide +kernel) (by decide +kernel)
theorem k_550 : (Jvm.Cond.instanceMethod ({ cls := "PledgeMonitor$Search", name := "firstCourse", desc := "(LPledgeMonitor$Agreement;LPledgeMonitor$State;II)I" } : Jvm.MethodName)) ∈ gw := gw_at 753 (by decide +kernel) (by decide +kernel)
theorem k_551 : (Jvm.Cond.selects "PledgeMonitor$Search" ({ cls := "PledgeMonitor$Search", name := "firstCourse", desc := "(LPledgeMonitor$Agreement;LPledgeMonitor$State;II)I" } : Jvm.MethodName) ({ cls := "PledgeMonitor$Search", name := "firstCourse", desc := "(LPledgeMonitor$Agreement;LPledgeMonitor$State;II)I" } : Jvm.MethodName)) ∈ gw := gw_at 27 (by decide +kernel) (by decide +kernel)
theorem k_552 : (Jvm.Cond.code ({ cls := "PledgeMonitor$Search", name := "firstCourse", desc := "(LPledgeMonitor$Agreement;LPledgeMonitor$State;II)I" } : Jvm.MethodName) prog_6_method_2_code (9 : Nat) (Option.some Jvm.ClassFile.FieldType.int)) ∈ gw := gw_at 754 (by decide +kernel) (by decide +kernel)
theorem k_553 : (Jvm.Cond.methodLink "PledgeMonitor$Search" (31 : Nat) ({ cls := "PledgeMonitor$Search", name := "isKeptByEndOfDay", desc := "(LPledgeMonitor$Agreement;LPledgeMonitor$State;II)Z" } : Jvm.MethodName)) ∈ gw := gw_at 755 (by decide +kernel) (by decide +kernel)
theorem k_554 : (Jvm.Cond.instanceMethod ({ cls := "PledgeMonitor$Search", name := "isKeptByEndOfDay", desc := "(LPledgeMonitor$Agreement;LPledgeMonitor$State;II)Z" } : Jvm.MethodName)) ∈ gw := gw_at 757 (by decide +kernel) (by decide +kernel)
theorem k_555 : (Jvm.Cond.selects "PledgeMonitor$Search" ({ cls := "PledgeMonitor$Search", name := "isKeptByEndOfDay", desc := "(LPledgeMonitor$Agreement;LPledgeMonitor$State;II)Z" } : Jvm.MethodName) ({ cls := "PledgeMonitor$Search", name := "isKeptByEndOfDay", desc := "(LPledgeMonitor$Agreement;LPledgeMonitor$State;II)Z" } : Jvm.MethodName)) ∈ gw := gw_at 28 (by decide +kernel) (by decide +kernel)
theorem k_556 : (Jvm.Cond.code ({ cls := "PledgeMonitor$Search", name := "isKeptByEndOfDay", desc := "(LPledgeMonitor$Agreement;LPledgeMonitor$State;II)Z" } : Jvm.MethodName) prog_6_method_3_code (6 : Nat) (Option.some Jvm.ClassFile.FieldType.boolean)) ∈ gw := gw_at 758 (by decide +kernel) (by decide +kernel)
theorem k_557 : (Jvm.Cond.methodLink "PledgeMonitor$Search" (35 : Nat) ({ cls := "PledgeMonitor$Search", name := "changes", desc := "(LPledgeMonitor$Agreement;LPledgeMonitor$State;LPledgeMonitor$State;II)Z" } : Jvm.MethodName)) ∈ gw := gw_at 767 (by decide +kernel) (by decide +kernel)
theorem k_558 : (Jvm.Cond.instanceMethod ({ cls := "PledgeMonitor$Search", name := "changes", desc := "(LPledgeMonitor$Agreement;LPledgeMonitor$State;LPledgeMonitor$State;II)Z" } : Jvm.MethodName)) ∈ gw := gw_at 769 (by decide +kernel) (by decide +kernel)
theorem k_559 : (Jvm.Cond.selects "PledgeMonitor$Search" ({ cls := "PledgeMonitor$Search", name := "changes", desc := "(LPledgeMonitor$Agreement;LPledgeMonitor$State;LPledgeMonitor$State;II)Z" } : Jvm.MethodName) ({ cls := "PledgeMonitor$Search", name := "changes", desc := "(LPledgeMonitor$Agreement;LPledgeMonitor$State;LPledgeMonitor$State;II)Z" } : Jvm.MethodName)) ∈ gw := gw_at 29 (by decide +kernel) (by decide +kernel)
theorem k_560 : (Jvm.Cond.code ({ cls := "PledgeMonitor$Search", name := "changes", desc := "(LPledgeMonitor$Agreement;LPledgeMonitor$State;LPledgeMonitor$State;II)Z" } : Jvm.MethodName) prog_6_method_4_code (6 : Nat) (Option.some Jvm.ClassFile.FieldType.boolean)) ∈ gw := gw_at 770 (by decide +kernel) (by decide +kernel)
theorem lf_Tx_9 : lk_f gw "PledgeMonitor$Text" 9 7 0 := ⟨_, _, _, rfl, by decide, k_4, rfl, zin7, rfl⟩
theorem lq_7_0 : lk_p "PledgeMonitor$Text" "<init>" 7 0 (.array .char) := ⟨_, _, _, zt7, rfl, by decide +kernel, Or.inr ⟨rfl, rfl, rfl⟩, zty7, znm7⟩
theorem lf_Tx_15 : lk_f gw "PledgeMonitor$Text" 15 7 1 := ⟨_, _, _, rfl, by decide, k_5, rfl, zin7, rfl⟩
theorem lq_7_1 {own mn : String} : lk_p own mn 7 1 .int := ⟨_, _, _, zt7, rfl, by decide +kernel, Or.inl rfl, zty7, znm7⟩
theorem lf_Tx_19 : lk_f gw "PledgeMonitor$Text" 19 7 2 := ⟨_, _, _, rfl, by decide, k_6, rfl, zin7, rfl⟩
theorem lq_7_2 {own mn : String} : lk_p own mn 7 2 .int := ⟨_, _, _, zt7, rfl, by decide +kernel, Or.inl rfl, zty7, znm7⟩
theorem lf_Tx_22 : lk_f gw "PledgeMonitor$Text" 22 7 3 := ⟨_, _, _, rfl, by decide, k_7, rfl, zin7, rfl⟩
theorem lq_7_3 {own mn : String} : lk_p own mn 7 3 .int := ⟨_, _, _, zt7, rfl, by decide +kernel, Or.inl rfl, zty7, znm7⟩
theorem lf_Tx_25 : lk_f gw "PledgeMonitor$Text" 25 7 4 := ⟨_, _, _, rfl, by decide, k_8, rfl, zin7, rfl⟩
theorem lq_7_4 {own mn : String} : lk_p own mn 7 4 .int := ⟨_, _, _, zt7, rfl, by decide +kernel, Or.inl rfl, zty7, znm7⟩
theorem lf_Tx_28 : lk_f gw "PledgeMonitor$Text" 28 7 5 := ⟨_, _, _, rfl, by decide, k_9, rfl, zin7, rfl⟩
theorem lq_7_5 {own mn : String} : lk_p own mn 7 5 .int := ⟨_, _, _, zt7, rfl, by decide +kernel, Or.inl rfl, zty7, znm7⟩
theorem lf_Cl_9 : lk_f gw "PledgeMonitor$Clause" 9 1 0 := ⟨_, _, _, rfl, by decide, k_11, rfl, zin1, rfl⟩
theorem lq_1_0 {own mn : String} : lk_p own mn 1 0 .int := ⟨_, _, _, zt1, rfl, by decide +kernel, Or.inl rfl, zty1, znm1⟩
theorem lf_Cl_15 : lk_f gw "PledgeMonitor$Clause" 15 1 1 := ⟨_, _, _, rfl, by decide, k_12, rfl, zin1, rfl⟩
theorem lq_1_1 {own mn : String} : lk_p own mn 1 1 .int := ⟨_, _, _, zt1, rfl, by decide +kernel, Or.inl rfl, zty1, znm1⟩
theorem lf_Cl_18 : lk_f gw "PledgeMonitor$Clause" 18 1 2 := ⟨_, _, _, rfl, by decide, k_13, rfl, zin1, rfl⟩
theorem lq_1_2 {own mn : String} : lk_p own mn 1 2 .int := ⟨_, _, _, zt1, rfl, by decide +kernel, Or.inl rfl, zty1, znm1⟩
theorem lf_Cl_21 : lk_f gw "PledgeMonitor$Clause" 21 1 3 := ⟨_, _, _, rfl, by decide, k_14, rfl, zin1, rfl⟩
theorem lq_1_3 {own mn : String} : lk_p own mn 1 3 .int := ⟨_, _, _, zt1, rfl, by decide +kernel, Or.inl rfl, zty1, znm1⟩
theorem lf_Cl_24 : lk_f gw "PledgeMonitor$Clause" 24 1 4 := ⟨_, _, _, rfl, by decide, k_15, rfl, zin1, rfl⟩
theorem lq_1_4 {own mn : String} : lk_p own mn 1 4 .boolean := ⟨_, _, _, zt1, rfl, by decide +kernel, Or.inl rfl, zty1, znm1⟩
theorem lf_Cl_28 : lk_f gw "PledgeMonitor$Clause" 28 1 5 := ⟨_, _, _, rfl, by decide, k_16, rfl, zin1, rfl⟩
theorem lq_1_5 {own mn : String} : lk_p own mn 1 5 .int := ⟨_, _, _, zt1, rfl, by decide +kernel, Or.inl rfl, zty1, znm1⟩
theorem lf_Cl_31 : lk_f gw "PledgeMonitor$Clause" 31 1 6 := ⟨_, _, _, rfl, by decide, k_17, rfl, zin1, rfl⟩
theorem lq_1_6 {own mn : String} : lk_p own mn 1 6 .int := ⟨_, _, _, zt1, rfl, by decide +kernel, Or.inl rfl, zty1, znm1⟩
theorem lf_Cl_34 : lk_f gw "PledgeMonitor$Clause" 34 1 7 := ⟨_, _, _, rfl, by decide, k_18, rfl, zin1, rfl⟩
theorem lq_1_7 {own mn : String} : lk_p own mn 1 7 .int := ⟨_, _, _, zt1, rfl, by decide +kernel, Or.inl rfl, zty1, znm1⟩
theorem lf_Cl_37 : lk_f gw "PledgeMonitor$Clause" 37 1 8 := ⟨_, _, _, rfl, by decide, k_19, rfl, zin1, rfl⟩
theorem lq_1_8 {own mn : String} : lk_p own mn 1 8 .int := ⟨_, _, _, zt1, rfl, by decide +kernel, Or.inl rfl, zty1, znm1⟩
theorem lf_Cl_40 : lk_f gw "PledgeMonitor$Clause" 40 1 9 := ⟨_, _, _, rfl, by decide, k_20, rfl, zin1, rfl⟩
theorem lq_1_9 {own mn : String} : lk_p own mn 1 9 .int := ⟨_, _, _, zt1, rfl, by decide +kernel, Or.inl rfl, zty1, znm1⟩
theorem lf_Cl_43 : lk_f gw "PledgeMonitor$Clause" 43 1 10 := ⟨_, _, _, rfl, by decide, k_21, rfl, zin1, rfl⟩
theorem lq_1_10 {own mn : String} : lk_p own mn 1 10 .int := ⟨_, _, _, zt1, rfl, by decide +kernel, Or.inl rfl, zty1, znm1⟩
theorem lf_Cl_46 : lk_f gw "PledgeMonitor$Clause" 46 1 11 := ⟨_, _, _, rfl, by decide, k_22, rfl, zin1, rfl⟩
theorem lq_1_11 {own mn : String} : lk_p own mn 1 11 .int := ⟨_, _, _, zt1, rfl, by decide +kernel, Or.inl rfl, zty1, znm1⟩
theorem lf_Cl_49 : lk_f gw "PledgeMonitor$Clause" 49 1 12 := ⟨_, _, _, rfl, by decide, k_23, rfl, zin1, rfl⟩
theorem lq_1_12 {own mn : String} : lk_p own mn 1 12 .int := ⟨_, _, _, zt1, rfl, by decide +kernel, Or.inl rfl, zty1, znm1⟩
theorem lf_Ag_11 : lk_f gw "PledgeMonitor$Agreement" 11 0 0 := ⟨_, _, _, rfl, by decide, k_26, rfl, zin0, rfl⟩
theorem lq_0_0 : lk_p "PledgeMonitor$Agreement" "<init>" 0 0 (.array (.object "PledgeMonitor$Clause")) := ⟨_, _, _, zt0, rfl, by decide +kernel, Or.inr ⟨rfl, rfl, rfl⟩, zty0, znm0⟩
theorem lf_Ag_17 : lk_f gw "PledgeMonitor$Agreement" 17 0 1 := ⟨_, _, _, rfl, by decide, k_27, rfl, zin0, rfl⟩
theorem lq_0_1 {own mn : String} : lk_p own mn 0 1 .int := ⟨_, _, _, zt0, rfl, by decide +kernel, Or.inl rfl, zty0, znm0⟩
theorem hn_Cl_init : zyCl_init.cls ≠ "java/lang/invoke/MethodHandle" ∧ zyCl_init.cls ≠ "java/lang/invoke/VarHandle" ∧ (parseMethodDescriptor zyCl_init.desc).map (fun d => d.parameters.length) = some 0 := by decide +kernel
theorem nk_Ag_21 : ("PledgeMonitor$Agreement", 21, zyCl_init, "PledgeMonitor") ∈ nwT := by decide +kernel
theorem lf_Te_9 : lk_f gw "PledgeMonitor$Terms" 9 6 0 := ⟨_, _, _, rfl, by decide, k_34, rfl, zin6, rfl⟩
theorem lq_6_0 : lk_p "PledgeMonitor$Terms" "<init>" 6 0 (.array .int) := ⟨_, _, _, zt6, rfl, by decide +kernel, Or.inr ⟨rfl, rfl, rfl⟩, zty6, znm6⟩
theorem lf_Te_15 : lk_f gw "PledgeMonitor$Terms" 15 6 1 := ⟨_, _, _, rfl, by decide, k_35, rfl, zin6, rfl⟩
theorem lq_6_1 {own mn : String} : lk_p own mn 6 1 .int := ⟨_, _, _, zt6, rfl, by decide +kernel, Or.inl rfl, zty6, znm6⟩
theorem lf_St_9 : lk_f gw "PledgeMonitor$State" 9 5 0 := ⟨_, _, _, rfl, by decide, k_37, rfl, zin5, rfl⟩
theorem lq_5_0 {own mn : String} : lk_p own mn 5 0 .int := ⟨_, _, _, zt5, rfl, by decide +kernel, Or.inl rfl, zty5, znm5⟩
theorem hn_Te_init : zyTe_init.cls ≠ "java/lang/invoke/MethodHandle" ∧ zyTe_init.cls ≠ "java/lang/invoke/VarHandle" ∧ (parseMethodDescriptor zyTe_init.desc).map (fun d => d.parameters.length) = some 0 := by decide +kernel
theorem nk_St_17 : ("PledgeMonitor$State", 17, zyTe_init, "PledgeMonitor") ∈ nwT := by decide +kernel
theorem lf_St_18 : lk_f gw "PledgeMonitor$State" 18 5 1 := ⟨_, _, _, rfl, by decide, k_43, rfl, zin5, rfl⟩
theorem lq_5_1 : lk_p "PledgeMonitor$State" "<init>" 5 1 (.object "PledgeMonitor$Terms") := ⟨_, _, _, zt5, rfl, by decide +kernel, Or.inr ⟨rfl, rfl, rfl⟩, zty5, znm5⟩
theorem lf_St_22 : lk_f gw "PledgeMonitor$State" 22 5 2 := ⟨_, _, _, rfl, by decide, k_44, rfl, zin5, rfl⟩
theorem lq_5_2 : lk_p "PledgeMonitor$State" "<init>" 5 2 (.object "PledgeMonitor$Terms") := ⟨_, _, _, zt5, rfl, by decide +kernel, Or.inr ⟨rfl, rfl, rfl⟩, zty5, znm5⟩
theorem lf_St_25 : lk_f gw "PledgeMonitor$State" 25 5 3 := ⟨_, _, _, rfl, by decide, k_45, rfl, zin5, rfl⟩
theorem lq_5_3 : lk_p "PledgeMonitor$State" "<init>" 5 3 (.object "PledgeMonitor$Terms") := ⟨_, _, _, zt5, rfl, by decide +kernel, Or.inr ⟨rfl, rfl, rfl⟩, zty5, znm5⟩
theorem lf_St_28 : lk_f gw "PledgeMonitor$State" 28 5 4 := ⟨_, _, _, rfl, by decide, k_46, rfl, zin5, rfl⟩
theorem lq_5_4 : lk_p "PledgeMonitor$State" "<init>" 5 4 (.array .int) := ⟨_, _, _, zt5, rfl, by decide +kernel, Or.inr ⟨rfl, rfl, rfl⟩, zty5, znm5⟩
theorem lf_St_32 : lk_f gw "PledgeMonitor$State" 32 5 5 := ⟨_, _, _, rfl, by decide, k_47, rfl, zin5, rfl⟩
theorem lq_5_5 : lk_p "PledgeMonitor$State" "<init>" 5 5 (.array .int) := ⟨_, _, _, zt5, rfl, by decide +kernel, Or.inr ⟨rfl, rfl, rfl⟩, zty5, znm5⟩
theorem lf_Hi_11 : lk_f gw "PledgeMonitor$History" 11 2 0 := ⟨_, _, _, rfl, by decide, k_50, rfl, zin2, rfl⟩
theorem lq_2_0 : lk_p "PledgeMonitor$History" "<init>" 2 0 (.array (.object "PledgeMonitor$State")) := ⟨_, _, _, zt2, rfl, by decide +kernel, Or.inr ⟨rfl, rfl, rfl⟩, zty2, znm2⟩
theorem lf_Hi_17 : lk_f gw "PledgeMonitor$History" 17 2 1 := ⟨_, _, _, rfl, by decide, k_51, rfl, zin2, rfl⟩
theorem lq_2_1 {own mn : String} : lk_p own mn 2 1 .int := ⟨_, _, _, zt2, rfl, by decide +kernel, Or.inl rfl, zty2, znm2⟩
theorem lf_Hi_21 : lk_f gw "PledgeMonitor$History" 21 2 2 := ⟨_, _, _, rfl, by decide, k_52, rfl, zin2, rfl⟩
theorem lq_2_2 {own mn : String} : lk_p own mn 2 2 .int := ⟨_, _, _, zt2, rfl, by decide +kernel, Or.inl rfl, zty2, znm2⟩
theorem hn_St_init : zySt_init.cls ≠ "java/lang/invoke/MethodHandle" ∧ zySt_init.cls ≠ "java/lang/invoke/VarHandle" ∧ (parseMethodDescriptor zySt_init.desc).map (fun d => d.parameters.length) = some 0 := by decide +kernel
theorem nk_Hi_24 : ("PledgeMonitor$History", 24, zySt_init, "PledgeMonitor") ∈ nwT := by decide +kernel
theorem lf_Ru_9 : lk_f gw "PledgeMonitor$Runner" 9 3 0 := ⟨_, _, _, rfl, by decide, k_59, rfl, zin3, rfl⟩
theorem lq_3_0 : lk_p "PledgeMonitor$Runner" "<init>" 3 0 (.array .boolean) := ⟨_, _, _, zt3, rfl, by decide +kernel, Or.inr ⟨rfl, rfl, rfl⟩, zty3, znm3⟩
theorem lf_Ru_15 : lk_f gw "PledgeMonitor$Runner" 15 3 1 := ⟨_, _, _, rfl, by decide, k_60, rfl, zin3, rfl⟩
theorem lq_3_1 : lk_p "PledgeMonitor$Runner" "<init>" 3 1 (.array .int) := ⟨_, _, _, zt3, rfl, by decide +kernel, Or.inr ⟨rfl, rfl, rfl⟩, zty3, znm3⟩
theorem lf_Ru_19 : lk_f gw "PledgeMonitor$Runner" 19 3 2 := ⟨_, _, _, rfl, by decide, k_61, rfl, zin3, rfl⟩
theorem lq_3_2 {own mn : String} : lk_p own mn 3 2 .int := ⟨_, _, _, zt3, rfl, by decide +kernel, Or.inl rfl, zty3, znm3⟩
theorem hn_Ru_init : zyRu_init.cls ≠ "java/lang/invoke/MethodHandle" ∧ zyRu_init.cls ≠ "java/lang/invoke/VarHandle" ∧ (parseMethodDescriptor zyRu_init.desc).map (fun d => d.parameters.length) = some 0 := by decide +kernel
theorem nk_Se_11 : ("PledgeMonitor$Search", 11, zyRu_init, "PledgeMonitor") ∈ nwT := by decide +kernel
theorem lf_Se_12 : lk_f gw "PledgeMonitor$Search" 12 4 0 := ⟨_, _, _, rfl, by decide, k_68, rfl, zin4, rfl⟩
theorem lq_4_0 : lk_p "PledgeMonitor$Search" "<init>" 4 0 (.object "PledgeMonitor$Runner") := ⟨_, _, _, zt4, rfl, by decide +kernel, Or.inr ⟨rfl, rfl, rfl⟩, zty4, znm4⟩
theorem lf_Se_20 : lk_f gw "PledgeMonitor$Search" 20 4 1 := ⟨_, _, _, rfl, by decide, k_70, rfl, zin4, rfl⟩
theorem lq_4_1 : lk_p "PledgeMonitor$Search" "<init>" 4 1 (.array (.object "PledgeMonitor$State")) := ⟨_, _, _, zt4, rfl, by decide +kernel, Or.inr ⟨rfl, rfl, rfl⟩, zty4, znm4⟩
theorem lf_Se_24 : lk_f gw "PledgeMonitor$Search" 24 4 2 := ⟨_, _, _, rfl, by decide, k_71, rfl, zin4, rfl⟩
theorem lq_4_2 : lk_p "PledgeMonitor$Search" "<init>" 4 2 (.array (.object "PledgeMonitor$State")) := ⟨_, _, _, zt4, rfl, by decide +kernel, Or.inr ⟨rfl, rfl, rfl⟩, zty4, znm4⟩
theorem lf_Se_27 : lk_f gw "PledgeMonitor$Search" 27 4 3 := ⟨_, _, _, rfl, by decide, k_72, rfl, zin4, rfl⟩
theorem lq_4_3 : lk_p "PledgeMonitor$Search" "<init>" 4 3 (.array (.object "PledgeMonitor$State")) := ⟨_, _, _, zt4, rfl, by decide +kernel, Or.inr ⟨rfl, rfl, rfl⟩, zty4, znm4⟩
theorem nk_Se_30 : ("PledgeMonitor$Search", 30, zySt_init, "PledgeMonitor") ∈ nwT := by decide +kernel
theorem hn_Tx_init : zyTx_init.cls ≠ "java/lang/invoke/MethodHandle" ∧ zyTx_init.cls ≠ "java/lang/invoke/VarHandle" ∧ (parseMethodDescriptor zyTx_init.desc).map (fun d => d.parameters.length) = some 0 := by decide +kernel
theorem nk_Pm_9 : ("PledgeMonitor", 9, zyTx_init, "PledgeMonitor") ∈ nwT := by decide +kernel
theorem lf_Pm_10 : lk_f gw "PledgeMonitor" 10 8 0 := ⟨_, _, _, rfl, by decide, k_79, rfl, zin8, rfl⟩
theorem lq_8_0 : lk_p "PledgeMonitor" "<init>" 8 0 (.object "PledgeMonitor$Text") := ⟨_, _, _, zt8, rfl, by decide +kernel, Or.inr ⟨rfl, rfl, rfl⟩, zty8, znm8⟩
theorem lf_Pm_16 : lk_f gw "PledgeMonitor" 16 8 1 := ⟨_, _, _, rfl, by decide, k_80, rfl, zin8, rfl⟩
theorem lq_8_1 {own mn : String} : lk_p own mn 8 1 .int := ⟨_, _, _, zt8, rfl, by decide +kernel, Or.inl rfl, zty8, znm8⟩
theorem lf_Pm_20 : lk_f gw "PledgeMonitor" 20 8 2 := ⟨_, _, _, rfl, by decide, k_81, rfl, zin8, rfl⟩
theorem lq_8_2 {own mn : String} : lk_p own mn 8 2 .boolean := ⟨_, _, _, zt8, rfl, by decide +kernel, Or.inl rfl, zty8, znm8⟩
theorem hn_Ag_init : zyAg_init.cls ≠ "java/lang/invoke/MethodHandle" ∧ zyAg_init.cls ≠ "java/lang/invoke/VarHandle" ∧ (parseMethodDescriptor zyAg_init.desc).map (fun d => d.parameters.length) = some 0 := by decide +kernel
theorem lf_Pm_27 : lk_f gw "PledgeMonitor" 27 8 3 := ⟨_, _, _, rfl, by decide, k_88, rfl, zin8, rfl⟩
theorem lq_8_3 {own mn : String} : lk_p own mn 8 3 (.object "PledgeMonitor$Agreement") := ⟨_, _, _, zt8, rfl, by decide +kernel, Or.inl rfl, zty8, znm8⟩
theorem lf_Pm_31 : lk_f gw "PledgeMonitor" 31 8 4 := ⟨_, _, _, rfl, by decide, k_89, rfl, zin8, rfl⟩
theorem lq_8_4 {own mn : String} : lk_p own mn 8 4 (.object "PledgeMonitor$Agreement") := ⟨_, _, _, zt8, rfl, by decide +kernel, Or.inl rfl, zty8, znm8⟩
theorem nk_Pm_36 : ("PledgeMonitor", 36, zySt_init, "PledgeMonitor") ∈ nwT := by decide +kernel
theorem lf_Pm_37 : lk_f gw "PledgeMonitor" 37 8 5 := ⟨_, _, _, rfl, by decide, k_91, rfl, zin8, rfl⟩
theorem lq_8_5 : lk_p "PledgeMonitor" "<init>" 8 5 (.object "PledgeMonitor$State") := ⟨_, _, _, zt8, rfl, by decide +kernel, Or.inr ⟨rfl, rfl, rfl⟩, zty8, znm8⟩
theorem lf_Pm_41 : lk_f gw "PledgeMonitor" 41 8 6 := ⟨_, _, _, rfl, by decide, k_92, rfl, zin8, rfl⟩
theorem lq_8_6 : lk_p "PledgeMonitor" "<init>" 8 6 (.object "PledgeMonitor$State") := ⟨_, _, _, zt8, rfl, by decide +kernel, Or.inr ⟨rfl, rfl, rfl⟩, zty8, znm8⟩
theorem hn_Hi_init : zyHi_init.cls ≠ "java/lang/invoke/MethodHandle" ∧ zyHi_init.cls ≠ "java/lang/invoke/VarHandle" ∧ (parseMethodDescriptor zyHi_init.desc).map (fun d => d.parameters.length) = some 0 := by decide +kernel
theorem lf_Pm_47 : lk_f gw "PledgeMonitor" 47 8 7 := ⟨_, _, _, rfl, by decide, k_99, rfl, zin8, rfl⟩
theorem lq_8_7 : lk_p "PledgeMonitor" "<init>" 8 7 (.object "PledgeMonitor$History") := ⟨_, _, _, zt8, rfl, by decide +kernel, Or.inr ⟨rfl, rfl, rfl⟩, zty8, znm8⟩
theorem hn_Se_init : zySe_init.cls ≠ "java/lang/invoke/MethodHandle" ∧ zySe_init.cls ≠ "java/lang/invoke/VarHandle" ∧ (parseMethodDescriptor zySe_init.desc).map (fun d => d.parameters.length) = some 0 := by decide +kernel
theorem lf_Pm_54 : lk_f gw "PledgeMonitor" 54 8 8 := ⟨_, _, _, rfl, by decide, k_106, rfl, zin8, rfl⟩
theorem lq_8_8 : lk_p "PledgeMonitor" "<init>" 8 8 (.object "PledgeMonitor$Search") := ⟨_, _, _, zt8, rfl, by decide +kernel, Or.inr ⟨rfl, rfl, rfl⟩, zty8, znm8⟩
theorem lf_Pm_58 : lk_f gw "PledgeMonitor" 58 4 0 := ⟨_, _, _, rfl, by decide, k_107, rfl, zin4, rfl⟩
theorem lf_Pm_62 : lk_f gw "PledgeMonitor" 62 8 9 := ⟨_, _, _, rfl, by decide, k_108, rfl, zin8, rfl⟩
theorem lq_8_9 : lk_p "PledgeMonitor" "<init>" 8 9 (.object "PledgeMonitor$Runner") := ⟨_, _, _, zt8, rfl, by decide +kernel, Or.inr ⟨rfl, rfl, rfl⟩, zty8, znm8⟩
theorem hs_Tx_characterOf : zyTx_characterOf.cls = "PledgeMonitor$Text" ∧ zyTx_characterOf.cls ≠ "java/lang/invoke/MethodHandle" ∧ zyTx_characterOf.cls ≠ "java/lang/invoke/VarHandle" ∧ (parseMethodDescriptor zyTx_characterOf.desc).map (fun d => d.parameters.length) = some 2 := by decide +kernel
theorem gs_Tx_31 : GoodIn gw (wsS "PledgeMonitor$Text" 31 zyTx_characterOf (ws_Tx_characterOf)) := gd_S k_109 k_110 k_76 k_111
theorem hv_Tx_put : zyTx_put.cls = zR7 ∧ zyTx_put.cls ≠ "java/lang/invoke/MethodHandle" ∧ zyTx_put.cls ≠ "java/lang/invoke/VarHandle" ∧ (parseMethodDescriptor zyTx_put.desc).map (fun d => d.parameters.length) = some 1 := by decide +kernel
theorem gv_Pm_63 : GoodIn gw (wsV "PledgeMonitor" 63 zR7 zyTx_put (ws_Tx_put)) := gd_V k_112 k_113 k_114 k_76 k_115
theorem lf_Pm_67 : lk_f gw "PledgeMonitor" 67 7 1 := ⟨_, _, _, rfl, by decide, k_116, rfl, zin7, rfl⟩
theorem lf_Pm_70 : lk_f gw "PledgeMonitor" 70 3 0 := ⟨_, _, _, rfl, by decide, k_117, rfl, zin3, rfl⟩
theorem hv_Tx_isNext : zyTx_isNext.cls = zR7 ∧ zyTx_isNext.cls ≠ "java/lang/invoke/MethodHandle" ∧ zyTx_isNext.cls ≠ "java/lang/invoke/VarHandle" ∧ (parseMethodDescriptor zyTx_isNext.desc).map (fun d => d.parameters.length) = some 1 := by decide +kernel
theorem gv_Tx_130 : GoodIn gw (wsV "PledgeMonitor$Text" 130 zR7 zyTx_isNext (ws_Tx_isNext)) := gd_V k_118 k_119 k_120 k_76 k_121
theorem hv_Tx_takeFrom : zyTx_takeFrom.cls = zR7 ∧ zyTx_takeFrom.cls ≠ "java/lang/invoke/MethodHandle" ∧ zyTx_takeFrom.cls ≠ "java/lang/invoke/VarHandle" ∧ (parseMethodDescriptor zyTx_takeFrom.desc).map (fun d => d.parameters.length) = some 2 := by decide +kernel
theorem gv_Tx_133 : GoodIn gw (wsV "PledgeMonitor$Text" 133 zR7 zyTx_takeFrom (ws_Tx_takeFrom)) := gd_V k_122 k_123 k_124 k_76 k_125
theorem hv_Tx_takeDigit : zyTx_takeDigit.cls = zR7 ∧ zyTx_takeDigit.cls ≠ "java/lang/invoke/MethodHandle" ∧ zyTx_takeDigit.cls ≠ "java/lang/invoke/VarHandle" ∧ (parseMethodDescriptor zyTx_takeDigit.desc).map (fun d => d.parameters.length) = some 0 := by decide +kernel
theorem gv_Tx_85 : GoodIn gw (wsV "PledgeMonitor$Text" 85 zR7 zyTx_takeDigit (ws_Tx_takeDigit)) := gd_V k_126 k_127 k_128 k_76 k_129
theorem lf_Tx_88 : lk_f gw "PledgeMonitor$Text" 88 1 3 := ⟨_, _, _, rfl, by decide, k_130, rfl, zin1, rfl⟩
theorem hv_Tx_takes : zyTx_takes.cls = zR7 ∧ zyTx_takes.cls ≠ "java/lang/invoke/MethodHandle" ∧ zyTx_takes.cls ≠ "java/lang/invoke/VarHandle" ∧ (parseMethodDescriptor zyTx_takes.desc).map (fun d => d.parameters.length) = some 1 := by decide +kernel
theorem gv_Tx_52 : GoodIn gw (wsV "PledgeMonitor$Text" 52 zR7 zyTx_takes (ws_Tx_takes)) := gd_V k_131 k_132 k_133 k_76 k_134
theorem lf_Tx_65 : lk_f gw "PledgeMonitor$Text" 65 1 0 := ⟨_, _, _, rfl, by decide, k_135, rfl, zin1, rfl⟩
theorem hv_Tx_takeParty : zyTx_takeParty.cls = zR7 ∧ zyTx_takeParty.cls ≠ "java/lang/invoke/MethodHandle" ∧ zyTx_takeParty.cls ≠ "java/lang/invoke/VarHandle" ∧ (parseMethodDescriptor zyTx_takeParty.desc).map (fun d => d.parameters.length) = some 0 := by decide +kernel
theorem gv_Tx_73 : GoodIn gw (wsV "PledgeMonitor$Text" 73 zR7 zyTx_takeParty (ws_Tx_takeParty)) := gd_V k_136 k_137 k_138 k_76 k_139
theorem lf_Tx_76 : lk_f gw "PledgeMonitor$Text" 76 1 1 := ⟨_, _, _, rfl, by decide, k_140, rfl, zin1, rfl⟩
theorem hv_Tx_takeKind : zyTx_takeKind.cls = zR7 ∧ zyTx_takeKind.cls ≠ "java/lang/invoke/MethodHandle" ∧ zyTx_takeKind.cls ≠ "java/lang/invoke/VarHandle" ∧ (parseMethodDescriptor zyTx_takeKind.desc).map (fun d => d.parameters.length) = some 0 := by decide +kernel
theorem gv_Tx_79 : GoodIn gw (wsV "PledgeMonitor$Text" 79 zR7 zyTx_takeKind (ws_Tx_takeKind)) := gd_V k_141 k_142 k_143 k_76 k_144
theorem lf_Tx_82 : lk_f gw "PledgeMonitor$Text" 82 1 2 := ⟨_, _, _, rfl, by decide, k_145, rfl, zin1, rfl⟩
theorem hv_Tx_readTriggerNumber : zyTx_readTriggerNumber.cls = zR7 ∧ zyTx_readTriggerNumber.cls ≠ "java/lang/invoke/MethodHandle" ∧ zyTx_readTriggerNumber.cls ≠ "java/lang/invoke/VarHandle" ∧ (parseMethodDescriptor zyTx_readTriggerNumber.desc).map (fun d => d.parameters.length) = some 1 := by decide +kernel
theorem gv_Tx_70 : GoodIn gw (wsV "PledgeMonitor$Text" 70 zR7 zyTx_readTriggerNumber (ws_Tx_readTriggerNumber)) := gd_V k_146 k_147 k_148 k_76 k_149
theorem lf_Tx_91 : lk_f gw "PledgeMonitor$Text" 91 1 4 := ⟨_, _, _, rfl, by decide, k_150, rfl, zin1, rfl⟩
theorem hv_Tx_readTwoParties : zyTx_readTwoParties.cls = zR7 ∧ zyTx_readTwoParties.cls ≠ "java/lang/invoke/MethodHandle" ∧ zyTx_readTwoParties.cls ≠ "java/lang/invoke/VarHandle" ∧ (parseMethodDescriptor zyTx_readTwoParties.desc).map (fun d => d.parameters.length) = some 0 := by decide +kernel
theorem gv_Tx_95 : GoodIn gw (wsV "PledgeMonitor$Text" 95 zR7 zyTx_readTwoParties (ws_Tx_readTwoParties)) := gd_V k_151 k_152 k_153 k_76 k_154
theorem hv_Tx_readDigit : zyTx_readDigit.cls = zR7 ∧ zyTx_readDigit.cls ≠ "java/lang/invoke/MethodHandle" ∧ zyTx_readDigit.cls ≠ "java/lang/invoke/VarHandle" ∧ (parseMethodDescriptor zyTx_readDigit.desc).map (fun d => d.parameters.length) = some 0 := by decide +kernel
theorem gv_Tx_99 : GoodIn gw (wsV "PledgeMonitor$Text" 99 zR7 zyTx_readDigit (ws_Tx_readDigit)) := gd_V k_155 k_156 k_157 k_76 k_158
theorem lf_Tx_102 : lk_f gw "PledgeMonitor$Text" 102 1 5 := ⟨_, _, _, rfl, by decide, k_159, rfl, zin1, rfl⟩
theorem lf_Tx_105 : lk_f gw "PledgeMonitor$Text" 105 1 6 := ⟨_, _, _, rfl, by decide, k_160, rfl, zin1, rfl⟩
theorem lf_Tx_108 : lk_f gw "PledgeMonitor$Text" 108 1 7 := ⟨_, _, _, rfl, by decide, k_161, rfl, zin1, rfl⟩
theorem lf_Tx_120 : lk_f gw "PledgeMonitor$Text" 120 1 8 := ⟨_, _, _, rfl, by decide, k_162, rfl, zin1, rfl⟩
theorem lf_Tx_111 : lk_f gw "PledgeMonitor$Text" 111 1 9 := ⟨_, _, _, rfl, by decide, k_163, rfl, zin1, rfl⟩
theorem lf_Tx_114 : lk_f gw "PledgeMonitor$Text" 114 1 10 := ⟨_, _, _, rfl, by decide, k_164, rfl, zin1, rfl⟩
theorem lf_Tx_117 : lk_f gw "PledgeMonitor$Text" 117 1 11 := ⟨_, _, _, rfl, by decide, k_165, rfl, zin1, rfl⟩
theorem lf_Tx_129 : lk_f gw "PledgeMonitor$Text" 129 1 12 := ⟨_, _, _, rfl, by decide, k_166, rfl, zin1, rfl⟩
theorem hv_Tx_readTermSign : zyTx_readTermSign.cls = zR7 ∧ zyTx_readTermSign.cls ≠ "java/lang/invoke/MethodHandle" ∧ zyTx_readTermSign.cls ≠ "java/lang/invoke/VarHandle" ∧ (parseMethodDescriptor zyTx_readTermSign.desc).map (fun d => d.parameters.length) = some 1 := by decide +kernel
theorem gv_Tx_123 : GoodIn gw (wsV "PledgeMonitor$Text" 123 zR7 zyTx_readTermSign (ws_Tx_readTermSign)) := gd_V k_167 k_168 k_169 k_76 k_170
theorem hv_Tx_readPartyAndKind : zyTx_readPartyAndKind.cls = zR7 ∧ zyTx_readPartyAndKind.cls ≠ "java/lang/invoke/MethodHandle" ∧ zyTx_readPartyAndKind.cls ≠ "java/lang/invoke/VarHandle" ∧ (parseMethodDescriptor zyTx_readPartyAndKind.desc).map (fun d => d.parameters.length) = some 0 := by decide +kernel
theorem gv_Tx_126 : GoodIn gw (wsV "PledgeMonitor$Text" 126 zR7 zyTx_readPartyAndKind (ws_Tx_readPartyAndKind)) := gd_V k_171 k_172 k_173 k_76 k_174
theorem hv_Tx_readTrigger : zyTx_readTrigger.cls = zR7 ∧ zyTx_readTrigger.cls ≠ "java/lang/invoke/MethodHandle" ∧ zyTx_readTrigger.cls ≠ "java/lang/invoke/VarHandle" ∧ (parseMethodDescriptor zyTx_readTrigger.desc).map (fun d => d.parameters.length) = some 1 := by decide +kernel
theorem gv_Tx_56 : GoodIn gw (wsV "PledgeMonitor$Text" 56 zR7 zyTx_readTrigger (ws_Tx_readTrigger)) := gd_V k_175 k_176 k_177 k_76 k_178
theorem hv_Tx_readCondition : zyTx_readCondition.cls = zR7 ∧ zyTx_readCondition.cls ≠ "java/lang/invoke/MethodHandle" ∧ zyTx_readCondition.cls ≠ "java/lang/invoke/VarHandle" ∧ (parseMethodDescriptor zyTx_readCondition.desc).map (fun d => d.parameters.length) = some 1 := by decide +kernel
theorem gv_Tx_59 : GoodIn gw (wsV "PledgeMonitor$Text" 59 zR7 zyTx_readCondition (ws_Tx_readCondition)) := gd_V k_179 k_180 k_181 k_76 k_182
theorem hv_Tx_readAction : zyTx_readAction.cls = zR7 ∧ zyTx_readAction.cls ≠ "java/lang/invoke/MethodHandle" ∧ zyTx_readAction.cls ≠ "java/lang/invoke/VarHandle" ∧ (parseMethodDescriptor zyTx_readAction.desc).map (fun d => d.parameters.length) = some 1 := by decide +kernel
theorem gv_Tx_62 : GoodIn gw (wsV "PledgeMonitor$Text" 62 zR7 zyTx_readAction (ws_Tx_readAction)) := gd_V k_183 k_184 k_185 k_76 k_186
theorem lf_Ag_66 : lk_f gw "PledgeMonitor$Agreement" 66 1 8 := ⟨_, _, _, rfl, by decide, k_187, rfl, zin1, rfl⟩
theorem lf_Ag_72 : lk_f gw "PledgeMonitor$Agreement" 72 1 0 := ⟨_, _, _, rfl, by decide, k_188, rfl, zin1, rfl⟩
theorem lf_Ag_75 : lk_f gw "PledgeMonitor$Agreement" 75 1 3 := ⟨_, _, _, rfl, by decide, k_189, rfl, zin1, rfl⟩
theorem lf_Ag_69 : lk_f gw "PledgeMonitor$Agreement" 69 1 12 := ⟨_, _, _, rfl, by decide, k_190, rfl, zin1, rfl⟩
theorem hv_Ag_liesOnRound : zyAg_liesOnRound.cls = zR0 ∧ zyAg_liesOnRound.cls ≠ "java/lang/invoke/MethodHandle" ∧ zyAg_liesOnRound.cls ≠ "java/lang/invoke/VarHandle" ∧ (parseMethodDescriptor zyAg_liesOnRound.desc).map (fun d => d.parameters.length) = some 1 := by decide +kernel
theorem gv_Ag_62 : GoodIn gw (wsV "PledgeMonitor$Agreement" 62 zR0 zyAg_liesOnRound (ws_Ag_liesOnRound)) := gd_V k_191 k_192 k_193 k_84 k_194
theorem hv_Ag_refersRightly : zyAg_refersRightly.cls = zR0 ∧ zyAg_refersRightly.cls ≠ "java/lang/invoke/MethodHandle" ∧ zyAg_refersRightly.cls ≠ "java/lang/invoke/VarHandle" ∧ (parseMethodDescriptor zyAg_refersRightly.desc).map (fun d => d.parameters.length) = some 1 := by decide +kernel
theorem gv_Ag_58 : GoodIn gw (wsV "PledgeMonitor$Agreement" 58 zR0 zyAg_refersRightly (ws_Ag_refersRightly)) := gd_V k_195 k_196 k_197 k_84 k_198
theorem lf_Tx_35 : lk_f gw "PledgeMonitor$Text" 35 0 0 := ⟨_, _, _, rfl, by decide, k_199, rfl, zin0, rfl⟩
theorem hv_Tx_readClause : zyTx_readClause.cls = zR7 ∧ zyTx_readClause.cls ≠ "java/lang/invoke/MethodHandle" ∧ zyTx_readClause.cls ≠ "java/lang/invoke/VarHandle" ∧ (parseMethodDescriptor zyTx_readClause.desc).map (fun d => d.parameters.length) = some 1 := by decide +kernel
theorem gv_Tx_41 : GoodIn gw (wsV "PledgeMonitor$Text" 41 zR7 zyTx_readClause (ws_Tx_readClause)) := gd_V k_200 k_201 k_202 k_76 k_203
theorem lf_Tx_45 : lk_f gw "PledgeMonitor$Text" 45 0 1 := ⟨_, _, _, rfl, by decide, k_204, rfl, zin0, rfl⟩
theorem hv_Ag_faultOfReferences : zyAg_faultOfReferences.cls = zR0 ∧ zyAg_faultOfReferences.cls ≠ "java/lang/invoke/MethodHandle" ∧ zyAg_faultOfReferences.cls ≠ "java/lang/invoke/VarHandle" ∧ (parseMethodDescriptor zyAg_faultOfReferences.desc).map (fun d => d.parameters.length) = some 0 := by decide +kernel
theorem gv_Tx_48 : GoodIn gw (wsV "PledgeMonitor$Text" 48 zR0 zyAg_faultOfReferences (ws_Ag_faultOfReferences)) := gd_V k_205 k_206 k_207 k_84 k_208
theorem lf_St_35 : lk_f gw "PledgeMonitor$State" 35 6 1 := ⟨_, _, _, rfl, by decide, k_209, rfl, zin6, rfl⟩
theorem hv_St_debtOf : zySt_debtOf.cls = zR5 ∧ zySt_debtOf.cls ≠ "java/lang/invoke/MethodHandle" ∧ zySt_debtOf.cls ≠ "java/lang/invoke/VarHandle" ∧ (parseMethodDescriptor zySt_debtOf.desc).map (fun d => d.parameters.length) = some 2 := by decide +kernel
theorem gv_Cl_52 : GoodIn gw (wsV "PledgeMonitor$Clause" 52 zR5 zySt_debtOf (ws_St_debtOf)) := gd_V k_210 k_211 k_212 k_54 k_213
theorem lf_Ru_114 : lk_f gw "PledgeMonitor$Runner" 114 1 8 := ⟨_, _, _, rfl, by decide, k_214, rfl, zin1, rfl⟩
theorem lf_Ru_76 : lk_f gw "PledgeMonitor$Runner" 76 5 1 := ⟨_, _, _, rfl, by decide, k_215, rfl, zin5, rfl⟩
theorem lf_Ru_79 : lk_f gw "PledgeMonitor$Runner" 79 5 0 := ⟨_, _, _, rfl, by decide, k_216, rfl, zin5, rfl⟩
theorem lf_Ru_117 : lk_f gw "PledgeMonitor$Runner" 117 1 12 := ⟨_, _, _, rfl, by decide, k_217, rfl, zin1, rfl⟩
theorem hv_Ru_businessDay : zyRu_businessDay.cls = zR3 ∧ zyRu_businessDay.cls ≠ "java/lang/invoke/MethodHandle" ∧ zyRu_businessDay.cls ≠ "java/lang/invoke/VarHandle" ∧ (parseMethodDescriptor zyRu_businessDay.desc).map (fun d => d.parameters.length) = some 2 := by decide +kernel
theorem gv_Ru_120 : GoodIn gw (wsV "PledgeMonitor$Runner" 120 zR3 zyRu_businessDay (ws_Ru_businessDay)) := gd_V k_218 k_219 k_220 k_65 k_221
theorem hv_Te_add : zyTe_add.cls = zR6 ∧ zyTe_add.cls ≠ "java/lang/invoke/MethodHandle" ∧ zyTe_add.cls ≠ "java/lang/invoke/VarHandle" ∧ (parseMethodDescriptor zyTe_add.desc).map (fun d => d.parameters.length) = some 2 := by decide +kernel
theorem gv_Ru_123 : GoodIn gw (wsV "PledgeMonitor$Runner" 123 zR6 zyTe_add (ws_Te_add)) := gd_V k_222 k_223 k_224 k_40 k_225
theorem lf_Ru_126 : lk_f gw "PledgeMonitor$Runner" 126 1 9 := ⟨_, _, _, rfl, by decide, k_226, rfl, zin1, rfl⟩
theorem lf_Ru_129 : lk_f gw "PledgeMonitor$Runner" 129 1 11 := ⟨_, _, _, rfl, by decide, k_227, rfl, zin1, rfl⟩
theorem hv_St_addDebt : zySt_addDebt.cls = zR5 ∧ zySt_addDebt.cls ≠ "java/lang/invoke/MethodHandle" ∧ zySt_addDebt.cls ≠ "java/lang/invoke/VarHandle" ∧ (parseMethodDescriptor zySt_addDebt.desc).map (fun d => d.parameters.length) = some 3 := by decide +kernel
theorem gv_Ru_132 : GoodIn gw (wsV "PledgeMonitor$Runner" 132 zR5 zySt_addDebt (ws_St_addDebt)) := gd_V k_228 k_229 k_230 k_54 k_231
theorem lf_Ru_59 : lk_f gw "PledgeMonitor$Runner" 59 5 3 := ⟨_, _, _, rfl, by decide, k_232, rfl, zin5, rfl⟩
theorem lf_Ru_49 : lk_f gw "PledgeMonitor$Runner" 49 5 2 := ⟨_, _, _, rfl, by decide, k_233, rfl, zin5, rfl⟩
theorem hv_Ru_await : zyRu_await.cls = zR3 ∧ zyRu_await.cls ≠ "java/lang/invoke/MethodHandle" ∧ zyRu_await.cls ≠ "java/lang/invoke/VarHandle" ∧ (parseMethodDescriptor zyRu_await.desc).map (fun d => d.parameters.length) = some 1 := by decide +kernel
theorem gv_Ru_37 : GoodIn gw (wsV "PledgeMonitor$Runner" 37 zR3 zyRu_await (ws_Ru_await)) := gd_V k_234 k_235 k_236 k_65 k_237
theorem lf_Ru_28 : lk_f gw "PledgeMonitor$Runner" 28 0 0 := ⟨_, _, _, rfl, by decide, k_238, rfl, zin0, rfl⟩
theorem hv_Cl_holds : zyCl_holds.cls = zR1 ∧ zyCl_holds.cls ≠ "java/lang/invoke/MethodHandle" ∧ zyCl_holds.cls ≠ "java/lang/invoke/VarHandle" ∧ (parseMethodDescriptor zyCl_holds.desc).map (fun d => d.parameters.length) = some 1 := by decide +kernel
theorem gv_Ru_106 : GoodIn gw (wsV "PledgeMonitor$Runner" 106 zR1 zyCl_holds (ws_Cl_holds)) := gd_V k_239 k_240 k_241 k_29 k_242
theorem hv_Ru_act : zyRu_act.cls = zR3 ∧ zyRu_act.cls ≠ "java/lang/invoke/MethodHandle" ∧ zyRu_act.cls ≠ "java/lang/invoke/VarHandle" ∧ (parseMethodDescriptor zyRu_act.desc).map (fun d => d.parameters.length) = some 3 := by decide +kernel
theorem gv_Ru_110 : GoodIn gw (wsV "PledgeMonitor$Runner" 110 zR3 zyRu_act (ws_Ru_act)) := gd_V k_243 k_244 k_245 k_65 k_246
theorem lf_Ru_23 : lk_f gw "PledgeMonitor$Runner" 23 0 1 := ⟨_, _, _, rfl, by decide, k_247, rfl, zin0, rfl⟩
theorem hv_Ru_runWaiting : zyRu_runWaiting.cls = zR3 ∧ zyRu_runWaiting.cls ≠ "java/lang/invoke/MethodHandle" ∧ zyRu_runWaiting.cls ≠ "java/lang/invoke/VarHandle" ∧ (parseMethodDescriptor zyRu_runWaiting.desc).map (fun d => d.parameters.length) = some 2 := by decide +kernel
theorem gv_Ru_41 : GoodIn gw (wsV "PledgeMonitor$Runner" 41 zR3 zyRu_runWaiting (ws_Ru_runWaiting)) := gd_V k_248 k_249 k_250 k_65 k_251
theorem lf_Ru_32 : lk_f gw "PledgeMonitor$Runner" 32 1 0 := ⟨_, _, _, rfl, by decide, k_252, rfl, zin1, rfl⟩
theorem hv_Te_copyFrom : zyTe_copyFrom.cls = zR6 ∧ zyTe_copyFrom.cls ≠ "java/lang/invoke/MethodHandle" ∧ zyTe_copyFrom.cls ≠ "java/lang/invoke/VarHandle" ∧ (parseMethodDescriptor zyTe_copyFrom.desc).map (fun d => d.parameters.length) = some 1 := by decide +kernel
theorem gv_St_38 : GoodIn gw (wsV "PledgeMonitor$State" 38 zR6 zyTe_copyFrom (ws_Te_copyFrom)) := gd_V k_257 k_258 k_259 k_40 k_260
theorem hv_Hi_forget : zyHi_forget.cls = zR2 ∧ zyHi_forget.cls ≠ "java/lang/invoke/MethodHandle" ∧ zyHi_forget.cls ≠ "java/lang/invoke/VarHandle" ∧ (parseMethodDescriptor zyHi_forget.desc).map (fun d => d.parameters.length) = some 0 := by decide +kernel
theorem gv_Pm_97 : GoodIn gw (wsV "PledgeMonitor" 97 zR2 zyHi_forget (ws_Hi_forget)) := gd_V k_262 k_263 k_264 k_95 k_265
theorem lf_Ag_22 : lk_f gw "PledgeMonitor$Agreement" 22 6 1 := ⟨_, _, _, rfl, by decide, k_266, rfl, zin6, rfl⟩
theorem hv_Te_clauseAt : zyTe_clauseAt.cls = zR6 ∧ zyTe_clauseAt.cls ≠ "java/lang/invoke/MethodHandle" ∧ zyTe_clauseAt.cls ≠ "java/lang/invoke/VarHandle" ∧ (parseMethodDescriptor zyTe_clauseAt.desc).map (fun d => d.parameters.length) = some 1 := by decide +kernel
theorem gv_Ag_25 : GoodIn gw (wsV "PledgeMonitor$Agreement" 25 zR6 zyTe_clauseAt (ws_Te_clauseAt)) := gd_V k_267 k_268 k_269 k_40 k_270
theorem hv_Cl_isFor : zyCl_isFor.cls = zR1 ∧ zyCl_isFor.cls ≠ "java/lang/invoke/MethodHandle" ∧ zyCl_isFor.cls ≠ "java/lang/invoke/VarHandle" ∧ (parseMethodDescriptor zyCl_isFor.desc).map (fun d => d.parameters.length) = some 2 := by decide +kernel
theorem gv_Ag_29 : GoodIn gw (wsV "PledgeMonitor$Agreement" 29 zR1 zyCl_isFor (ws_Cl_isFor)) := gd_V k_271 k_272 k_273 k_29 k_274
theorem gv_Te_27 : GoodIn gw (wsV "PledgeMonitor$Terms" 27 zR6 zyTe_clauseAt (ws_Te_clauseAt)) := gd_V k_275 k_268 k_269 k_40 k_270
theorem hv_Te_dayAt : zyTe_dayAt.cls = zR6 ∧ zyTe_dayAt.cls ≠ "java/lang/invoke/MethodHandle" ∧ zyTe_dayAt.cls ≠ "java/lang/invoke/VarHandle" ∧ (parseMethodDescriptor zyTe_dayAt.desc).map (fun d => d.parameters.length) = some 1 := by decide +kernel
theorem gv_Te_19 : GoodIn gw (wsV "PledgeMonitor$Terms" 19 zR6 zyTe_dayAt (ws_Te_dayAt)) := gd_V k_276 k_277 k_278 k_40 k_279
theorem hv_Cl_isOn : zyCl_isOn.cls = zR1 ∧ zyCl_isOn.cls ≠ "java/lang/invoke/MethodHandle" ∧ zyCl_isOn.cls ≠ "java/lang/invoke/VarHandle" ∧ (parseMethodDescriptor zyCl_isOn.desc).map (fun d => d.parameters.length) = some 2 := by decide +kernel
theorem gv_Ru_103 : GoodIn gw (wsV "PledgeMonitor$Runner" 103 zR1 zyCl_isOn (ws_Cl_isOn)) := gd_V k_280 k_281 k_282 k_29 k_283
theorem gv_Ru_96 : GoodIn gw (wsV "PledgeMonitor$Runner" 96 zR1 zyCl_isFor (ws_Cl_isFor)) := gd_V k_284 k_272 k_273 k_29 k_274
theorem hv_Te_countUntil : zyTe_countUntil.cls = zR6 ∧ zyTe_countUntil.cls ≠ "java/lang/invoke/MethodHandle" ∧ zyTe_countUntil.cls ≠ "java/lang/invoke/VarHandle" ∧ (parseMethodDescriptor zyTe_countUntil.desc).map (fun d => d.parameters.length) = some 2 := by decide +kernel
theorem gv_Ru_82 : GoodIn gw (wsV "PledgeMonitor$Runner" 82 zR6 zyTe_countUntil (ws_Te_countUntil)) := gd_V k_285 k_286 k_287 k_40 k_288
theorem lf_Ru_86 : lk_f gw "PledgeMonitor$Runner" 86 5 5 := ⟨_, _, _, rfl, by decide, k_289, rfl, zin5, rfl⟩
theorem hv_Ru_awaitAllOn : zyRu_awaitAllOn.cls = zR3 ∧ zyRu_awaitAllOn.cls ≠ "java/lang/invoke/MethodHandle" ∧ zyRu_awaitAllOn.cls ≠ "java/lang/invoke/VarHandle" ∧ (parseMethodDescriptor zyRu_awaitAllOn.desc).map (fun d => d.parameters.length) = some 4 := by decide +kernel
theorem gv_Ru_89 : GoodIn gw (wsV "PledgeMonitor$Runner" 89 zR3 zyRu_awaitAllOn (ws_Ru_awaitAllOn)) := gd_V k_290 k_291 k_292 k_65 k_293
theorem hv_Ag_find : zyAg_find.cls = zR0 ∧ zyAg_find.cls ≠ "java/lang/invoke/MethodHandle" ∧ zyAg_find.cls ≠ "java/lang/invoke/VarHandle" ∧ (parseMethodDescriptor zyAg_find.desc).map (fun d => d.parameters.length) = some 3 := by decide +kernel
theorem gv_Ru_55 : GoodIn gw (wsV "PledgeMonitor$Runner" 55 zR0 zyAg_find (ws_Ag_find)) := gd_V k_294 k_295 k_296 k_84 k_297
theorem gv_Ru_99 : GoodIn gw (wsV "PledgeMonitor$Runner" 99 zR6 zyTe_clauseAt (ws_Te_clauseAt)) := gd_V k_298 k_268 k_269 k_40 k_270
theorem hv_Te_remove : zyTe_remove.cls = zR6 ∧ zyTe_remove.cls ≠ "java/lang/invoke/MethodHandle" ∧ zyTe_remove.cls ≠ "java/lang/invoke/VarHandle" ∧ (parseMethodDescriptor zyTe_remove.desc).map (fun d => d.parameters.length) = some 2 := by decide +kernel
theorem gv_Ru_66 : GoodIn gw (wsV "PledgeMonitor$Runner" 66 zR6 zyTe_remove (ws_Te_remove)) := gd_V k_299 k_300 k_301 k_40 k_302
theorem hv_Ru_fulfilDuty : zyRu_fulfilDuty.cls = zR3 ∧ zyRu_fulfilDuty.cls ≠ "java/lang/invoke/MethodHandle" ∧ zyRu_fulfilDuty.cls ≠ "java/lang/invoke/VarHandle" ∧ (parseMethodDescriptor zyRu_fulfilDuty.desc).map (fun d => d.parameters.length) = some 4 := by decide +kernel
theorem gv_Ru_72 : GoodIn gw (wsV "PledgeMonitor$Runner" 72 zR3 zyRu_fulfilDuty (ws_Ru_fulfilDuty)) := gd_V k_303 k_304 k_305 k_65 k_306
theorem hv_Ru_breachBans : zyRu_breachBans.cls = zR3 ∧ zyRu_breachBans.cls ≠ "java/lang/invoke/MethodHandle" ∧ zyRu_breachBans.cls ≠ "java/lang/invoke/VarHandle" ∧ (parseMethodDescriptor zyRu_breachBans.desc).map (fun d => d.parameters.length) = some 4 := by decide +kernel
theorem gv_Ru_62 : GoodIn gw (wsV "PledgeMonitor$Runner" 62 zR3 zyRu_breachBans (ws_Ru_breachBans)) := gd_V k_307 k_308 k_309 k_65 k_310
theorem hv_Cl_isOnEvent : zyCl_isOnEvent.cls = zR1 ∧ zyCl_isOnEvent.cls ≠ "java/lang/invoke/MethodHandle" ∧ zyCl_isOnEvent.cls ≠ "java/lang/invoke/VarHandle" ∧ (parseMethodDescriptor zyCl_isOnEvent.desc).map (fun d => d.parameters.length) = some 2 := by decide +kernel
theorem gv_Ru_45 : GoodIn gw (wsV "PledgeMonitor$Runner" 45 zR1 zyCl_isOnEvent (ws_Cl_isOnEvent)) := gd_V k_311 k_312 k_313 k_29 k_314
theorem hv_St_copyFrom : zySt_copyFrom.cls = zR5 ∧ zySt_copyFrom.cls ≠ "java/lang/invoke/MethodHandle" ∧ zySt_copyFrom.cls ≠ "java/lang/invoke/VarHandle" ∧ (parseMethodDescriptor zySt_copyFrom.desc).map (fun d => d.parameters.length) = some 1 := by decide +kernel
theorem gv_Hi_25 : GoodIn gw (wsV "PledgeMonitor$History" 25 zR5 zySt_copyFrom (ws_St_copyFrom)) := gd_V k_315 k_316 k_317 k_54 k_318
theorem hv_Hi_keep : zyHi_keep.cls = zR2 ∧ zyHi_keep.cls ≠ "java/lang/invoke/MethodHandle" ∧ zyHi_keep.cls ≠ "java/lang/invoke/VarHandle" ∧ (parseMethodDescriptor zyHi_keep.desc).map (fun d => d.parameters.length) = some 1 := by decide +kernel
theorem gv_Pm_170 : GoodIn gw (wsV "PledgeMonitor" 170 zR2 zyHi_keep (ws_Hi_keep)) := gd_V k_323 k_324 k_325 k_95 k_326
theorem gv_Pm_93 : GoodIn gw (wsV "PledgeMonitor" 93 zR5 zySt_copyFrom (ws_St_copyFrom)) := gd_V k_327 k_316 k_317 k_54 k_318
theorem gv_Te_23 : GoodIn gw (wsV "PledgeMonitor$Terms" 23 zR6 zyTe_remove (ws_Te_remove)) := gd_V k_328 k_300 k_301 k_40 k_302
theorem hv_Te_dropBefore : zyTe_dropBefore.cls = zR6 ∧ zyTe_dropBefore.cls ≠ "java/lang/invoke/MethodHandle" ∧ zyTe_dropBefore.cls ≠ "java/lang/invoke/VarHandle" ∧ (parseMethodDescriptor zyTe_dropBefore.desc).map (fun d => d.parameters.length) = some 1 := by decide +kernel
theorem gv_Ru_93 : GoodIn gw (wsV "PledgeMonitor$Runner" 93 zR6 zyTe_dropBefore (ws_Te_dropBefore)) := gd_V k_329 k_330 k_331 k_40 k_332
theorem hv_Hi_giveBack : zyHi_giveBack.cls = zR2 ∧ zyHi_giveBack.cls ≠ "java/lang/invoke/MethodHandle" ∧ zyHi_giveBack.cls ≠ "java/lang/invoke/VarHandle" ∧ (parseMethodDescriptor zyHi_giveBack.desc).map (fun d => d.parameters.length) = some 1 := by decide +kernel
theorem gv_Pm_127 : GoodIn gw (wsV "PledgeMonitor" 127 zR2 zyHi_giveBack (ws_Hi_giveBack)) := gd_V k_333 k_334 k_335 k_95 k_336
theorem lf_Pm_120 : lk_f gw "PledgeMonitor" 120 5 0 := ⟨_, _, _, rfl, by decide, k_337, rfl, zin5, rfl⟩
theorem lf_Pm_131 : lk_f gw "PledgeMonitor" 131 5 1 := ⟨_, _, _, rfl, by decide, k_338, rfl, zin5, rfl⟩
theorem lf_Pm_135 : lk_f gw "PledgeMonitor" 135 6 1 := ⟨_, _, _, rfl, by decide, k_339, rfl, zin6, rfl⟩
theorem lf_Pm_138 : lk_f gw "PledgeMonitor" 138 6 0 := ⟨_, _, _, rfl, by decide, k_340, rfl, zin6, rfl⟩
theorem lf_Pm_142 : lk_f gw "PledgeMonitor" 142 5 2 := ⟨_, _, _, rfl, by decide, k_341, rfl, zin5, rfl⟩
theorem lf_Pm_145 : lk_f gw "PledgeMonitor" 145 5 3 := ⟨_, _, _, rfl, by decide, k_342, rfl, zin5, rfl⟩
theorem lf_Pm_100 : lk_f gw "PledgeMonitor" 100 0 1 := ⟨_, _, _, rfl, by decide, k_343, rfl, zin0, rfl⟩
theorem lf_Pm_148 : lk_f gw "PledgeMonitor" 148 5 5 := ⟨_, _, _, rfl, by decide, k_344, rfl, zin5, rfl⟩
theorem hs_Pm_isParty : zyPm_isParty.cls = "PledgeMonitor" ∧ zyPm_isParty.cls ≠ "java/lang/invoke/MethodHandle" ∧ zyPm_isParty.cls ≠ "java/lang/invoke/VarHandle" ∧ (parseMethodDescriptor zyPm_isParty.desc).map (fun d => d.parameters.length) = some 1 := by decide +kernel
theorem gs_Pm_106 : GoodIn gw (wsS "PledgeMonitor" 106 zyPm_isParty (ws_Pm_isParty)) := gd_S k_345 k_346 k_347 k_348
theorem hs_Pm_isKind : zyPm_isKind.cls = "PledgeMonitor" ∧ zyPm_isKind.cls ≠ "java/lang/invoke/MethodHandle" ∧ zyPm_isKind.cls ≠ "java/lang/invoke/VarHandle" ∧ (parseMethodDescriptor zyPm_isKind.desc).map (fun d => d.parameters.length) = some 1 := by decide +kernel
theorem gs_Pm_110 : GoodIn gw (wsS "PledgeMonitor" 110 zyPm_isKind (ws_Pm_isKind)) := gd_S k_349 k_350 k_347 k_351
theorem gv_Pm_151 : GoodIn gw (wsV "PledgeMonitor" 151 zR0 zyAg_find (ws_Ag_find)) := gd_V k_352 k_295 k_296 k_84 k_297
theorem gv_Pm_155 : GoodIn gw (wsV "PledgeMonitor" 155 zR5 zySt_debtOf (ws_St_debtOf)) := gd_V k_353 k_211 k_212 k_54 k_213
theorem lf_Ag_46 : lk_f gw "PledgeMonitor$Agreement" 46 5 1 := ⟨_, _, _, rfl, by decide, k_354, rfl, zin5, rfl⟩
theorem gv_Ag_49 : GoodIn gw (wsV "PledgeMonitor$Agreement" 49 zR6 zyTe_dayAt (ws_Te_dayAt)) := gd_V k_355 k_277 k_278 k_40 k_279
theorem lf_Ag_52 : lk_f gw "PledgeMonitor$Agreement" 52 5 0 := ⟨_, _, _, rfl, by decide, k_356, rfl, zin5, rfl⟩
theorem lf_Ag_55 : lk_f gw "PledgeMonitor$Agreement" 55 1 9 := ⟨_, _, _, rfl, by decide, k_357, rfl, zin1, rfl⟩
theorem lf_Ag_36 : lk_f gw "PledgeMonitor$Agreement" 36 5 2 := ⟨_, _, _, rfl, by decide, k_358, rfl, zin5, rfl⟩
theorem gv_Ag_42 : GoodIn gw (wsV "PledgeMonitor$Agreement" 42 zR0 zyAg_find (ws_Ag_find)) := gd_V k_359 k_295 k_296 k_84 k_297
theorem gv_Ag_33 : GoodIn gw (wsV "PledgeMonitor$Agreement" 33 zR1 zyCl_isOnEvent (ws_Cl_isOnEvent)) := gd_V k_360 k_312 k_313 k_29 k_314
theorem hv_Ag_isTouchedBy : zyAg_isTouchedBy.cls = zR0 ∧ zyAg_isTouchedBy.cls ≠ "java/lang/invoke/MethodHandle" ∧ zyAg_isTouchedBy.cls ≠ "java/lang/invoke/VarHandle" ∧ (parseMethodDescriptor zyAg_isTouchedBy.desc).map (fun d => d.parameters.length) = some 3 := by decide +kernel
theorem gv_Se_57 : GoodIn gw (wsV "PledgeMonitor$Search" 57 zR0 zyAg_isTouchedBy (ws_Ag_isTouchedBy)) := gd_V k_361 k_362 k_363 k_84 k_364
theorem gv_Se_45 : GoodIn gw (wsV "PledgeMonitor$Search" 45 zR5 zySt_copyFrom (ws_St_copyFrom)) := gd_V k_365 k_316 k_317 k_54 k_318
theorem hv_Ru_happen : zyRu_happen.cls = zR3 ∧ zyRu_happen.cls ≠ "java/lang/invoke/MethodHandle" ∧ zyRu_happen.cls ≠ "java/lang/invoke/VarHandle" ∧ (parseMethodDescriptor zyRu_happen.desc).map (fun d => d.parameters.length) = some 4 := by decide +kernel
theorem gv_Se_61 : GoodIn gw (wsV "PledgeMonitor$Search" 61 zR3 zyRu_happen (ws_Ru_happen)) := gd_V k_366 k_367 k_368 k_65 k_369
theorem lf_Mo_7 : lk_f gw "PledgeMonitorModel" 7 9 2 := ⟨_, _, _, rfl, by decide, k_371, rfl, zin9, rfl⟩
theorem lq_9_2 : lk_p "PledgeMonitorModel" "<init>" 9 2 (.array .int) := ⟨_, _, _, zt9, rfl, by decide +kernel, Or.inr ⟨rfl, rfl, rfl⟩, zty9, znm9⟩
theorem lf_Mo_13 : lk_f gw "PledgeMonitorModel" 13 9 3 := ⟨_, _, _, rfl, by decide, k_372, rfl, zin9, rfl⟩
theorem lq_9_3 {own mn : String} : lk_p own mn 9 3 .int := ⟨_, _, _, zt9, rfl, by decide +kernel, Or.inl rfl, zty9, znm9⟩
theorem lf_Mo_17 : lk_f gw "PledgeMonitorModel" 17 9 4 := ⟨_, _, _, rfl, by decide, k_373, rfl, zin9, rfl⟩
theorem lq_9_4 : lk_p "PledgeMonitorModel" "<init>" 9 4 (.array .boolean) := ⟨_, _, _, zt9, rfl, by decide +kernel, Or.inr ⟨rfl, rfl, rfl⟩, zty9, znm9⟩
theorem lf_Mo_21 : lk_f gw "PledgeMonitorModel" 21 9 8 := ⟨_, _, _, rfl, by decide, k_374, rfl, zin9, rfl⟩
theorem lq_9_8 : lk_p "PledgeMonitorModel" "<init>" 9 8 (.array .int) := ⟨_, _, _, zt9, rfl, by decide +kernel, Or.inr ⟨rfl, rfl, rfl⟩, zty9, znm9⟩
theorem lf_Mo_24 : lk_f gw "PledgeMonitorModel" 24 9 9 := ⟨_, _, _, rfl, by decide, k_375, rfl, zin9, rfl⟩
theorem lq_9_9 : lk_p "PledgeMonitorModel" "<init>" 9 9 (.array .int) := ⟨_, _, _, zt9, rfl, by decide +kernel, Or.inr ⟨rfl, rfl, rfl⟩, zty9, znm9⟩
theorem lf_Mo_27 : lk_f gw "PledgeMonitorModel" 27 9 10 := ⟨_, _, _, rfl, by decide, k_376, rfl, zin9, rfl⟩
theorem lq_9_10 : lk_p "PledgeMonitorModel" "<init>" 9 10 (.array .int) := ⟨_, _, _, zt9, rfl, by decide +kernel, Or.inr ⟨rfl, rfl, rfl⟩, zty9, znm9⟩
theorem lf_Mo_30 : lk_f gw "PledgeMonitorModel" 30 9 11 := ⟨_, _, _, rfl, by decide, k_377, rfl, zin9, rfl⟩
theorem lq_9_11 : lk_p "PledgeMonitorModel" "<init>" 9 11 (.array .boolean) := ⟨_, _, _, zt9, rfl, by decide +kernel, Or.inr ⟨rfl, rfl, rfl⟩, zty9, znm9⟩
theorem lf_Mo_33 : lk_f gw "PledgeMonitorModel" 33 9 12 := ⟨_, _, _, rfl, by decide, k_378, rfl, zin9, rfl⟩
theorem lq_9_12 : lk_p "PledgeMonitorModel" "<init>" 9 12 (.array .int) := ⟨_, _, _, zt9, rfl, by decide +kernel, Or.inr ⟨rfl, rfl, rfl⟩, zty9, znm9⟩
theorem lf_Mo_36 : lk_f gw "PledgeMonitorModel" 36 9 13 := ⟨_, _, _, rfl, by decide, k_379, rfl, zin9, rfl⟩
theorem lq_9_13 : lk_p "PledgeMonitorModel" "<init>" 9 13 (.array .int) := ⟨_, _, _, zt9, rfl, by decide +kernel, Or.inr ⟨rfl, rfl, rfl⟩, zty9, znm9⟩
theorem lf_Mo_39 : lk_f gw "PledgeMonitorModel" 39 9 14 := ⟨_, _, _, rfl, by decide, k_380, rfl, zin9, rfl⟩
theorem lq_9_14 : lk_p "PledgeMonitorModel" "<init>" 9 14 (.array .int) := ⟨_, _, _, zt9, rfl, by decide +kernel, Or.inr ⟨rfl, rfl, rfl⟩, zty9, znm9⟩
theorem lf_Mo_42 : lk_f gw "PledgeMonitorModel" 42 9 15 := ⟨_, _, _, rfl, by decide, k_381, rfl, zin9, rfl⟩
theorem lq_9_15 : lk_p "PledgeMonitorModel" "<init>" 9 15 (.array .int) := ⟨_, _, _, zt9, rfl, by decide +kernel, Or.inr ⟨rfl, rfl, rfl⟩, zty9, znm9⟩
theorem lf_Mo_45 : lk_f gw "PledgeMonitorModel" 45 9 16 := ⟨_, _, _, rfl, by decide, k_382, rfl, zin9, rfl⟩
theorem lq_9_16 : lk_p "PledgeMonitorModel" "<init>" 9 16 (.array .int) := ⟨_, _, _, zt9, rfl, by decide +kernel, Or.inr ⟨rfl, rfl, rfl⟩, zty9, znm9⟩
theorem lf_Mo_48 : lk_f gw "PledgeMonitorModel" 48 9 17 := ⟨_, _, _, rfl, by decide, k_383, rfl, zin9, rfl⟩
theorem lq_9_17 : lk_p "PledgeMonitorModel" "<init>" 9 17 (.array .int) := ⟨_, _, _, zt9, rfl, by decide +kernel, Or.inr ⟨rfl, rfl, rfl⟩, zty9, znm9⟩
theorem lf_Mo_51 : lk_f gw "PledgeMonitorModel" 51 9 18 := ⟨_, _, _, rfl, by decide, k_384, rfl, zin9, rfl⟩
theorem lq_9_18 : lk_p "PledgeMonitorModel" "<init>" 9 18 (.array .int) := ⟨_, _, _, zt9, rfl, by decide +kernel, Or.inr ⟨rfl, rfl, rfl⟩, zty9, znm9⟩
theorem lf_Mo_54 : lk_f gw "PledgeMonitorModel" 54 9 19 := ⟨_, _, _, rfl, by decide, k_385, rfl, zin9, rfl⟩
theorem lq_9_19 : lk_p "PledgeMonitorModel" "<init>" 9 19 (.array .int) := ⟨_, _, _, zt9, rfl, by decide +kernel, Or.inr ⟨rfl, rfl, rfl⟩, zty9, znm9⟩
theorem lf_Mo_57 : lk_f gw "PledgeMonitorModel" 57 9 22 := ⟨_, _, _, rfl, by decide, k_386, rfl, zin9, rfl⟩
theorem lq_9_22 : lk_p "PledgeMonitorModel" "<init>" 9 22 (.array .int) := ⟨_, _, _, zt9, rfl, by decide +kernel, Or.inr ⟨rfl, rfl, rfl⟩, zty9, znm9⟩
theorem lf_Mo_60 : lk_f gw "PledgeMonitorModel" 60 9 0 := ⟨_, _, _, rfl, by decide, k_387, rfl, zin9, rfl⟩
theorem lq_9_0 {own mn : String} : lk_p own mn 9 0 .int := ⟨_, _, _, zt9, rfl, by decide +kernel, Or.inl rfl, zty9, znm9⟩
theorem lf_Mo_65 : lk_f gw "PledgeMonitorModel" 65 9 1 := ⟨_, _, _, rfl, by decide, k_388, rfl, zin9, rfl⟩
theorem lq_9_1 {own mn : String} : lk_p own mn 9 1 .int := ⟨_, _, _, zt9, rfl, by decide +kernel, Or.inl rfl, zty9, znm9⟩
theorem lf_Mo_68 : lk_f gw "PledgeMonitorModel" 68 9 6 := ⟨_, _, _, rfl, by decide, k_390, rfl, zin9, rfl⟩
theorem hv_Mo_charAt : zyMo_charAt.cls = zR9 ∧ zyMo_charAt.cls ≠ "java/lang/invoke/MethodHandle" ∧ zyMo_charAt.cls ≠ "java/lang/invoke/VarHandle" ∧ (parseMethodDescriptor zyMo_charAt.desc).map (fun d => d.parameters.length) = some 1 := by decide +kernel
theorem gv_Mo_72 : GoodIn gw (wsV "PledgeMonitorModel" 72 zR9 zyMo_charAt (ws_Mo_charAt)) := gd_V k_391 k_392 k_393 k_394 k_395
theorem hv_Mo_party : zyMo_party.cls = zR9 ∧ zyMo_party.cls ≠ "java/lang/invoke/MethodHandle" ∧ zyMo_party.cls ≠ "java/lang/invoke/VarHandle" ∧ (parseMethodDescriptor zyMo_party.desc).map (fun d => d.parameters.length) = some 1 := by decide +kernel
theorem gv_Mo_76 : GoodIn gw (wsV "PledgeMonitorModel" 76 zR9 zyMo_party (ws_Mo_party)) := gd_V k_396 k_397 k_398 k_394 k_399
theorem hv_Mo_kind : zyMo_kind.cls = zR9 ∧ zyMo_kind.cls ≠ "java/lang/invoke/MethodHandle" ∧ zyMo_kind.cls ≠ "java/lang/invoke/VarHandle" ∧ (parseMethodDescriptor zyMo_kind.desc).map (fun d => d.parameters.length) = some 1 := by decide +kernel
theorem gv_Mo_82 : GoodIn gw (wsV "PledgeMonitorModel" 82 zR9 zyMo_kind (ws_Mo_kind)) := gd_V k_400 k_401 k_402 k_394 k_403
theorem hv_Mo_digit : zyMo_digit.cls = zR9 ∧ zyMo_digit.cls ≠ "java/lang/invoke/MethodHandle" ∧ zyMo_digit.cls ≠ "java/lang/invoke/VarHandle" ∧ (parseMethodDescriptor zyMo_digit.desc).map (fun d => d.parameters.length) = some 1 := by decide +kernel
theorem gv_Mo_79 : GoodIn gw (wsV "PledgeMonitorModel" 79 zR9 zyMo_digit (ws_Mo_digit)) := gd_V k_404 k_405 k_406 k_394 k_407
theorem hv_Mo_overPair : zyMo_overPair.cls = zR9 ∧ zyMo_overPair.cls ≠ "java/lang/invoke/MethodHandle" ∧ zyMo_overPair.cls ≠ "java/lang/invoke/VarHandle" ∧ (parseMethodDescriptor zyMo_overPair.desc).map (fun d => d.parameters.length) = some 1 := by decide +kernel
theorem gv_Mo_85 : GoodIn gw (wsV "PledgeMonitorModel" 85 zR9 zyMo_overPair (ws_Mo_overPair)) := gd_V k_408 k_409 k_410 k_394 k_411
theorem hv_Mo_readTrigger : zyMo_readTrigger.cls = zR9 ∧ zyMo_readTrigger.cls ≠ "java/lang/invoke/MethodHandle" ∧ zyMo_readTrigger.cls ≠ "java/lang/invoke/VarHandle" ∧ (parseMethodDescriptor zyMo_readTrigger.desc).map (fun d => d.parameters.length) = some 2 := by decide +kernel
theorem gv_Mo_88 : GoodIn gw (wsV "PledgeMonitorModel" 88 zR9 zyMo_readTrigger (ws_Mo_readTrigger)) := gd_V k_412 k_413 k_414 k_394 k_415
theorem hv_Mo_readAction : zyMo_readAction.cls = zR9 ∧ zyMo_readAction.cls ≠ "java/lang/invoke/MethodHandle" ∧ zyMo_readAction.cls ≠ "java/lang/invoke/VarHandle" ∧ (parseMethodDescriptor zyMo_readAction.desc).map (fun d => d.parameters.length) = some 2 := by decide +kernel
theorem gv_Mo_95 : GoodIn gw (wsV "PledgeMonitorModel" 95 zR9 zyMo_readAction (ws_Mo_readAction)) := gd_V k_416 k_417 k_418 k_394 k_419
theorem hv_Mo_readBound : zyMo_readBound.cls = zR9 ∧ zyMo_readBound.cls ≠ "java/lang/invoke/MethodHandle" ∧ zyMo_readBound.cls ≠ "java/lang/invoke/VarHandle" ∧ (parseMethodDescriptor zyMo_readBound.desc).map (fun d => d.parameters.length) = some 2 := by decide +kernel
theorem gv_Mo_92 : GoodIn gw (wsV "PledgeMonitorModel" 92 zR9 zyMo_readBound (ws_Mo_readBound)) := gd_V k_420 k_421 k_422 k_394 k_423
theorem hv_Mo_readClause : zyMo_readClause.cls = zR9 ∧ zyMo_readClause.cls ≠ "java/lang/invoke/MethodHandle" ∧ zyMo_readClause.cls ≠ "java/lang/invoke/VarHandle" ∧ (parseMethodDescriptor zyMo_readClause.desc).map (fun d => d.parameters.length) = some 2 := by decide +kernel
theorem gv_Mo_98 : GoodIn gw (wsV "PledgeMonitorModel" 98 zR9 zyMo_readClause (ws_Mo_readClause)) := gd_V k_424 k_425 k_426 k_394 k_427
theorem hv_Mo_goesRound : zyMo_goesRound.cls = zR9 ∧ zyMo_goesRound.cls ≠ "java/lang/invoke/MethodHandle" ∧ zyMo_goesRound.cls ≠ "java/lang/invoke/VarHandle" ∧ (parseMethodDescriptor zyMo_goesRound.desc).map (fun d => d.parameters.length) = some 2 := by decide +kernel
theorem gv_Mo_105 : GoodIn gw (wsV "PledgeMonitorModel" 105 zR9 zyMo_goesRound (ws_Mo_goesRound)) := gd_V k_428 k_429 k_430 k_394 k_431
theorem hv_Mo_refersWell : zyMo_refersWell.cls = zR9 ∧ zyMo_refersWell.cls ≠ "java/lang/invoke/MethodHandle" ∧ zyMo_refersWell.cls ≠ "java/lang/invoke/VarHandle" ∧ (parseMethodDescriptor zyMo_refersWell.desc).map (fun d => d.parameters.length) = some 3 := by decide +kernel
theorem gv_Mo_101 : GoodIn gw (wsV "PledgeMonitorModel" 101 zR9 zyMo_refersWell (ws_Mo_refersWell)) := gd_V k_432 k_433 k_434 k_394 k_435
theorem lf_Mo_109 : lk_f gw "PledgeMonitorModel" 109 9 23 := ⟨_, _, _, rfl, by decide, k_436, rfl, zin9, rfl⟩
theorem lq_9_23 {own mn : String} : lk_p own mn 9 23 .boolean := ⟨_, _, _, zt9, rfl, by decide +kernel, Or.inl rfl, zty9, znm9⟩
theorem lf_Mo_112 : lk_f gw "PledgeMonitorModel" 112 9 5 := ⟨_, _, _, rfl, by decide, k_437, rfl, zin9, rfl⟩
theorem hv_Mo_clauseAt : zyMo_clauseAt.cls = zR9 ∧ zyMo_clauseAt.cls ≠ "java/lang/invoke/MethodHandle" ∧ zyMo_clauseAt.cls ≠ "java/lang/invoke/VarHandle" ∧ (parseMethodDescriptor zyMo_clauseAt.desc).map (fun d => d.parameters.length) = some 3 := by decide +kernel
theorem gv_Mo_115 : GoodIn gw (wsV "PledgeMonitorModel" 115 zR9 zyMo_clauseAt (ws_Mo_clauseAt)) := gd_V k_438 k_439 k_440 k_394 k_441
theorem hv_Mo_isOf : zyMo_isOf.cls = zR9 ∧ zyMo_isOf.cls ≠ "java/lang/invoke/MethodHandle" ∧ zyMo_isOf.cls ≠ "java/lang/invoke/VarHandle" ∧ (parseMethodDescriptor zyMo_isOf.desc).map (fun d => d.parameters.length) = some 3 := by decide +kernel
theorem gv_Mo_119 : GoodIn gw (wsV "PledgeMonitorModel" 119 zR9 zyMo_isOf (ws_Mo_isOf)) := gd_V k_442 k_443 k_444 k_394 k_445
theorem hv_Mo_dayAt : zyMo_dayAt.cls = zR9 ∧ zyMo_dayAt.cls ≠ "java/lang/invoke/MethodHandle" ∧ zyMo_dayAt.cls ≠ "java/lang/invoke/VarHandle" ∧ (parseMethodDescriptor zyMo_dayAt.desc).map (fun d => d.parameters.length) = some 3 := by decide +kernel
theorem gv_Mo_122 : GoodIn gw (wsV "PledgeMonitorModel" 122 zR9 zyMo_dayAt (ws_Mo_dayAt)) := gd_V k_446 k_447 k_448 k_394 k_449
theorem lf_Mo_125 : lk_f gw "PledgeMonitorModel" 125 9 7 := ⟨_, _, _, rfl, by decide, k_450, rfl, zin9, rfl⟩
theorem lf_Mo_128 : lk_f gw "PledgeMonitorModel" 128 9 21 := ⟨_, _, _, rfl, by decide, k_451, rfl, zin9, rfl⟩
theorem lq_9_21 {own mn : String} : lk_p own mn 9 21 .int := ⟨_, _, _, zt9, rfl, by decide +kernel, Or.inl rfl, zty9, znm9⟩
theorem lf_Mo_131 : lk_f gw "PledgeMonitorModel" 131 9 24 := ⟨_, _, _, rfl, by decide, k_452, rfl, zin9, rfl⟩
theorem lq_9_24 {own mn : String} : lk_p own mn 9 24 .int := ⟨_, _, _, zt9, rfl, by decide +kernel, Or.inl rfl, zty9, znm9⟩
theorem lf_Mo_134 : lk_f gw "PledgeMonitorModel" 134 9 25 := ⟨_, _, _, rfl, by decide, k_453, rfl, zin9, rfl⟩
theorem lq_9_25 {own mn : String} : lk_p own mn 9 25 .int := ⟨_, _, _, zt9, rfl, by decide +kernel, Or.inl rfl, zty9, znm9⟩
theorem hv_Mo_await : zyMo_await.cls = zR9 ∧ zyMo_await.cls ≠ "java/lang/invoke/MethodHandle" ∧ zyMo_await.cls ≠ "java/lang/invoke/VarHandle" ∧ (parseMethodDescriptor zyMo_await.desc).map (fun d => d.parameters.length) = some 3 := by decide +kernel
theorem gv_Mo_137 : GoodIn gw (wsV "PledgeMonitorModel" 137 zR9 zyMo_await (ws_Mo_await)) := gd_V k_454 k_455 k_456 k_394 k_457
theorem hv_Mo_put : zyMo_put.cls = zR9 ∧ zyMo_put.cls ≠ "java/lang/invoke/MethodHandle" ∧ zyMo_put.cls ≠ "java/lang/invoke/VarHandle" ∧ (parseMethodDescriptor zyMo_put.desc).map (fun d => d.parameters.length) = some 4 := by decide +kernel
theorem gv_Mo_144 : GoodIn gw (wsV "PledgeMonitorModel" 144 zR9 zyMo_put (ws_Mo_put)) := gd_V k_458 k_459 k_460 k_394 k_461
theorem hv_Mo_dayAfter : zyMo_dayAfter.cls = zR9 ∧ zyMo_dayAfter.cls ≠ "java/lang/invoke/MethodHandle" ∧ zyMo_dayAfter.cls ≠ "java/lang/invoke/VarHandle" ∧ (parseMethodDescriptor zyMo_dayAfter.desc).map (fun d => d.parameters.length) = some 2 := by decide +kernel
theorem gv_Mo_141 : GoodIn gw (wsV "PledgeMonitorModel" 141 zR9 zyMo_dayAfter (ws_Mo_dayAfter)) := gd_V k_462 k_463 k_464 k_394 k_465
theorem hv_Mo_act : zyMo_act.cls = zR9 ∧ zyMo_act.cls ≠ "java/lang/invoke/MethodHandle" ∧ zyMo_act.cls ≠ "java/lang/invoke/VarHandle" ∧ (parseMethodDescriptor zyMo_act.desc).map (fun d => d.parameters.length) = some 2 := by decide +kernel
theorem gv_Mo_148 : GoodIn gw (wsV "PledgeMonitorModel" 148 zR9 zyMo_act (ws_Mo_act)) := gd_V k_466 k_467 k_468 k_394 k_469
theorem hv_Mo_start : zyMo_start.cls = zR9 ∧ zyMo_start.cls ≠ "java/lang/invoke/MethodHandle" ∧ zyMo_start.cls ≠ "java/lang/invoke/VarHandle" ∧ (parseMethodDescriptor zyMo_start.desc).map (fun d => d.parameters.length) = some 0 := by decide +kernel
theorem gv_Mo_152 : GoodIn gw (wsV "PledgeMonitorModel" 152 zR9 zyMo_start (ws_Mo_start)) := gd_V k_470 k_471 k_472 k_394 k_473
theorem hv_Mo_first : zyMo_first.cls = zR9 ∧ zyMo_first.cls ≠ "java/lang/invoke/MethodHandle" ∧ zyMo_first.cls ≠ "java/lang/invoke/VarHandle" ∧ (parseMethodDescriptor zyMo_first.desc).map (fun d => d.parameters.length) = some 4 := by decide +kernel
theorem gv_Mo_155 : GoodIn gw (wsV "PledgeMonitorModel" 155 zR9 zyMo_first (ws_Mo_first)) := gd_V k_474 k_475 k_476 k_394 k_477
theorem hv_Mo_run : zyMo_run.cls = zR9 ∧ zyMo_run.cls ≠ "java/lang/invoke/MethodHandle" ∧ zyMo_run.cls ≠ "java/lang/invoke/VarHandle" ∧ (parseMethodDescriptor zyMo_run.desc).map (fun d => d.parameters.length) = some 1 := by decide +kernel
theorem gv_Mo_165 : GoodIn gw (wsV "PledgeMonitorModel" 165 zR9 zyMo_run (ws_Mo_run)) := gd_V k_478 k_479 k_480 k_394 k_481
theorem hv_Mo_takeOut : zyMo_takeOut.cls = zR9 ∧ zyMo_takeOut.cls ≠ "java/lang/invoke/MethodHandle" ∧ zyMo_takeOut.cls ≠ "java/lang/invoke/VarHandle" ∧ (parseMethodDescriptor zyMo_takeOut.desc).map (fun d => d.parameters.length) = some 3 := by decide +kernel
theorem gv_Mo_159 : GoodIn gw (wsV "PledgeMonitorModel" 159 zR9 zyMo_takeOut (ws_Mo_takeOut)) := gd_V k_482 k_483 k_484 k_394 k_485
theorem hv_Mo_breach : zyMo_breach.cls = zR9 ∧ zyMo_breach.cls ≠ "java/lang/invoke/MethodHandle" ∧ zyMo_breach.cls ≠ "java/lang/invoke/VarHandle" ∧ (parseMethodDescriptor zyMo_breach.desc).map (fun d => d.parameters.length) = some 2 := by decide +kernel
theorem gv_Mo_162 : GoodIn gw (wsV "PledgeMonitorModel" 162 zR9 zyMo_breach (ws_Mo_breach)) := gd_V k_486 k_487 k_488 k_394 k_489
theorem hv_Mo_passOver : zyMo_passOver.cls = zR9 ∧ zyMo_passOver.cls ≠ "java/lang/invoke/MethodHandle" ∧ zyMo_passOver.cls ≠ "java/lang/invoke/VarHandle" ∧ (parseMethodDescriptor zyMo_passOver.desc).map (fun d => d.parameters.length) = some 2 := by decide +kernel
theorem gv_Mo_169 : GoodIn gw (wsV "PledgeMonitorModel" 169 zR9 zyMo_passOver (ws_Mo_passOver)) := gd_V k_490 k_491 k_492 k_394 k_493
theorem hv_Mo_readAll : zyMo_readAll.cls = zR9 ∧ zyMo_readAll.cls ≠ "java/lang/invoke/MethodHandle" ∧ zyMo_readAll.cls ≠ "java/lang/invoke/VarHandle" ∧ (parseMethodDescriptor zyMo_readAll.desc).map (fun d => d.parameters.length) = some 1 := by decide +kernel
theorem gv_Mo_172 : GoodIn gw (wsV "PledgeMonitorModel" 172 zR9 zyMo_readAll (ws_Mo_readAll)) := gd_V k_494 k_495 k_496 k_394 k_497
theorem hv_Mo_faultOf : zyMo_faultOf.cls = zR9 ∧ zyMo_faultOf.cls ≠ "java/lang/invoke/MethodHandle" ∧ zyMo_faultOf.cls ≠ "java/lang/invoke/VarHandle" ∧ (parseMethodDescriptor zyMo_faultOf.desc).map (fun d => d.parameters.length) = some 2 := by decide +kernel
theorem gv_Mo_175 : GoodIn gw (wsV "PledgeMonitorModel" 175 zR9 zyMo_faultOf (ws_Mo_faultOf)) := gd_V k_498 k_499 k_500 k_394 k_501
theorem lq_9_5 {own mn : String} : lk_p own mn 9 5 .int := ⟨_, _, _, zt9, rfl, by decide +kernel, Or.inl rfl, zty9, znm9⟩
theorem lq_9_7 {own mn : String} : lk_p own mn 9 7 .int := ⟨_, _, _, zt9, rfl, by decide +kernel, Or.inl rfl, zty9, znm9⟩
theorem hv_Mo_copy : zyMo_copy.cls = zR9 ∧ zyMo_copy.cls ≠ "java/lang/invoke/MethodHandle" ∧ zyMo_copy.cls ≠ "java/lang/invoke/VarHandle" ∧ (parseMethodDescriptor zyMo_copy.desc).map (fun d => d.parameters.length) = some 2 := by decide +kernel
theorem gv_Mo_178 : GoodIn gw (wsV "PledgeMonitorModel" 178 zR9 zyMo_copy (ws_Mo_copy)) := gd_V k_502 k_503 k_504 k_394 k_505
theorem lq_9_6 {own mn : String} : lk_p own mn 9 6 .boolean := ⟨_, _, _, zt9, rfl, by decide +kernel, Or.inl rfl, zty9, znm9⟩
theorem lf_Mo_181 : lk_f gw "PledgeMonitorModel" 181 9 20 := ⟨_, _, _, rfl, by decide, k_506, rfl, zin9, rfl⟩
theorem lq_9_20 {own mn : String} : lk_p own mn 9 20 .int := ⟨_, _, _, zt9, rfl, by decide +kernel, Or.inl rfl, zty9, znm9⟩
theorem hv_Mo_eventIn : zyMo_eventIn.cls = zR9 ∧ zyMo_eventIn.cls ≠ "java/lang/invoke/MethodHandle" ∧ zyMo_eventIn.cls ≠ "java/lang/invoke/VarHandle" ∧ (parseMethodDescriptor zyMo_eventIn.desc).map (fun d => d.parameters.length) = some 3 := by decide +kernel
theorem gv_Mo_191 : GoodIn gw (wsV "PledgeMonitorModel" 191 zR9 zyMo_eventIn (ws_Mo_eventIn)) := gd_V k_507 k_508 k_509 k_394 k_510
theorem hv_Mo_settle : zyMo_settle.cls = zR9 ∧ zyMo_settle.cls ≠ "java/lang/invoke/MethodHandle" ∧ zyMo_settle.cls ≠ "java/lang/invoke/VarHandle" ∧ (parseMethodDescriptor zyMo_settle.desc).map (fun d => d.parameters.length) = some 0 := by decide +kernel
theorem gv_Mo_194 : GoodIn gw (wsV "PledgeMonitorModel" 194 zR9 zyMo_settle (ws_Mo_settle)) := gd_V k_511 k_512 k_513 k_394 k_514
theorem hs_Mo_isParty : zyMo_isParty.cls = "PledgeMonitorModel" ∧ zyMo_isParty.cls ≠ "java/lang/invoke/MethodHandle" ∧ zyMo_isParty.cls ≠ "java/lang/invoke/VarHandle" ∧ (parseMethodDescriptor zyMo_isParty.desc).map (fun d => d.parameters.length) = some 1 := by decide +kernel
theorem gs_Mo_184 : GoodIn gw (wsS "PledgeMonitorModel" 184 zyMo_isParty (ws_Mo_isParty)) := gd_S k_515 k_516 k_394 k_517
theorem hs_Mo_isKind : zyMo_isKind.cls = "PledgeMonitorModel" ∧ zyMo_isKind.cls ≠ "java/lang/invoke/MethodHandle" ∧ zyMo_isKind.cls ≠ "java/lang/invoke/VarHandle" ∧ (parseMethodDescriptor zyMo_isKind.desc).map (fun d => d.parameters.length) = some 1 := by decide +kernel
theorem gs_Mo_188 : GoodIn gw (wsS "PledgeMonitorModel" 188 zyMo_isKind (ws_Mo_isKind)) := gd_S k_518 k_519 k_394 k_520
theorem hv_Mo_endIn : zyMo_endIn.cls = zR9 ∧ zyMo_endIn.cls ≠ "java/lang/invoke/MethodHandle" ∧ zyMo_endIn.cls ≠ "java/lang/invoke/VarHandle" ∧ (parseMethodDescriptor zyMo_endIn.desc).map (fun d => d.parameters.length) = some 1 := by decide +kernel
theorem gv_Mo_198 : GoodIn gw (wsV "PledgeMonitorModel" 198 zR9 zyMo_endIn (ws_Mo_endIn)) := gd_V k_521 k_522 k_523 k_394 k_524
theorem hv_Mo_goes : zyMo_goes.cls = zR9 ∧ zyMo_goes.cls ≠ "java/lang/invoke/MethodHandle" ∧ zyMo_goes.cls ≠ "java/lang/invoke/VarHandle" ∧ (parseMethodDescriptor zyMo_goes.desc).map (fun d => d.parameters.length) = some 4 := by decide +kernel
theorem gv_Mo_201 : GoodIn gw (wsV "PledgeMonitorModel" 201 zR9 zyMo_goes (ws_Mo_goes)) := gd_V k_525 k_526 k_527 k_394 k_528
theorem hv_Mo_hasOne : zyMo_hasOne.cls = zR9 ∧ zyMo_hasOne.cls ≠ "java/lang/invoke/MethodHandle" ∧ zyMo_hasOne.cls ≠ "java/lang/invoke/VarHandle" ∧ (parseMethodDescriptor zyMo_hasOne.desc).map (fun d => d.parameters.length) = some 3 := by decide +kernel
theorem gv_Mo_205 : GoodIn gw (wsV "PledgeMonitorModel" 205 zR9 zyMo_hasOne (ws_Mo_hasOne)) := gd_V k_529 k_530 k_531 k_394 k_532
theorem hv_Mo_askCode : zyMo_askCode.cls = zR9 ∧ zyMo_askCode.cls ≠ "java/lang/invoke/MethodHandle" ∧ zyMo_askCode.cls ≠ "java/lang/invoke/VarHandle" ∧ (parseMethodDescriptor zyMo_askCode.desc).map (fun d => d.parameters.length) = some 2 := by decide +kernel
theorem gv_Mo_208 : GoodIn gw (wsV "PledgeMonitorModel" 208 zR9 zyMo_askCode (ws_Mo_askCode)) := gd_V k_533 k_534 k_535 k_394 k_536
theorem hv_Mo_firstCourse : zyMo_firstCourse.cls = zR9 ∧ zyMo_firstCourse.cls ≠ "java/lang/invoke/MethodHandle" ∧ zyMo_firstCourse.cls ≠ "java/lang/invoke/VarHandle" ∧ (parseMethodDescriptor zyMo_firstCourse.desc).map (fun d => d.parameters.length) = some 3 := by decide +kernel
theorem gv_Mo_211 : GoodIn gw (wsV "PledgeMonitorModel" 211 zR9 zyMo_firstCourse (ws_Mo_firstCourse)) := gd_V k_537 k_538 k_539 k_394 k_540
theorem hv_Ag_hasDutyDue : zyAg_hasDutyDue.cls = zR0 ∧ zyAg_hasDutyDue.cls ≠ "java/lang/invoke/MethodHandle" ∧ zyAg_hasDutyDue.cls ≠ "java/lang/invoke/VarHandle" ∧ (parseMethodDescriptor zyAg_hasDutyDue.desc).map (fun d => d.parameters.length) = some 2 := by decide +kernel
theorem gv_Se_39 : GoodIn gw (wsV "PledgeMonitor$Search" 39 zR0 zyAg_hasDutyDue (ws_Ag_hasDutyDue)) := gd_V k_541 k_542 k_543 k_84 k_544
theorem hv_Ru_endDay : zyRu_endDay.cls = zR3 ∧ zyRu_endDay.cls ≠ "java/lang/invoke/MethodHandle" ∧ zyRu_endDay.cls ≠ "java/lang/invoke/VarHandle" ∧ (parseMethodDescriptor zyRu_endDay.desc).map (fun d => d.parameters.length) = some 2 := by decide +kernel
theorem gv_Se_49 : GoodIn gw (wsV "PledgeMonitor$Search" 49 zR3 zyRu_endDay (ws_Ru_endDay)) := gd_V k_545 k_546 k_547 k_65 k_548
theorem hv_Se_firstCourse : zySe_firstCourse.cls = zR4 ∧ zySe_firstCourse.cls ≠ "java/lang/invoke/MethodHandle" ∧ zySe_firstCourse.cls ≠ "java/lang/invoke/VarHandle" ∧ (parseMethodDescriptor zySe_firstCourse.desc).map (fun d => d.parameters.length) = some 4 := by decide +kernel
theorem gv_Se_53 : GoodIn gw (wsV "PledgeMonitor$Search" 53 zR4 zySe_firstCourse (ws_Se_firstCourse)) := gd_V k_549 k_550 k_551 k_102 k_552
theorem hv_Se_isKeptByEndOfDay : zySe_isKeptByEndOfDay.cls = zR4 ∧ zySe_isKeptByEndOfDay.cls ≠ "java/lang/invoke/MethodHandle" ∧ zySe_isKeptByEndOfDay.cls ≠ "java/lang/invoke/VarHandle" ∧ (parseMethodDescriptor zySe_isKeptByEndOfDay.desc).map (fun d => d.parameters.length) = some 4 := by decide +kernel
theorem gv_Se_31 : GoodIn gw (wsV "PledgeMonitor$Search" 31 zR4 zySe_isKeptByEndOfDay (ws_Se_isKeptByEndOfDay)) := gd_V k_553 k_554 k_555 k_102 k_556
theorem hv_Se_changes : zySe_changes.cls = zR4 ∧ zySe_changes.cls ≠ "java/lang/invoke/MethodHandle" ∧ zySe_changes.cls ≠ "java/lang/invoke/VarHandle" ∧ (parseMethodDescriptor zySe_changes.desc).map (fun d => d.parameters.length) = some 5 := by decide +kernel
theorem gv_Se_35 : GoodIn gw (wsV "PledgeMonitor$Search" 35 zR4 zySe_changes (ws_Se_changes)) := gd_V k_557 k_558 k_559 k_102 k_560
/-- enough turns for every loop -/
def fo_N : Nat := 2000
