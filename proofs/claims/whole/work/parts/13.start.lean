/-! the whole claim out of a run of the small machine -/
theorem za_0 : ∀ a, a < 0 → (a + 1 ≠ 2 → zOK (a + 1)) := fun a h => absurd h (Nat.not_lt_zero a)
theorem za_17 : ∀ a, a < 17 → (a + 1 ≠ 2 → zOK (a + 1)) := (lt_s (lt_s (lt_s (lt_s (lt_s (lt_s (lt_s (lt_s (lt_s (lt_s (lt_s (lt_s (lt_s (lt_s (lt_s (lt_s (lt_s za_0 (fun _ => ⟨zk_ok1, zm_ok1⟩)) (fun h => absurd rfl h)) (fun _ => ⟨zk_ok3, zm_ok3⟩)) (fun _ => ⟨zk_ok4, zm_ok4⟩)) (fun _ => ⟨zk_ok5, zm_ok5⟩)) (fun _ => ⟨zk_ok6, zm_ok6⟩)) (fun _ => ⟨zk_ok7, zm_ok7⟩)) (fun _ => ⟨zk_ok8, zm_ok8⟩)) (fun _ => ⟨zk_ok9, zm_ok9⟩)) (fun _ => ⟨zk_ok10, zm_ok10⟩)) (fun _ => ⟨zk_ok11, zm_ok11⟩)) (fun _ => ⟨zk_ok12, zm_ok12⟩)) (fun _ => ⟨zk_ok13, zm_ok13⟩)) (fun _ => ⟨zk_ok14, zm_ok14⟩)) (fun _ => ⟨zk_ok15, zm_ok15⟩)) (fun _ => ⟨zk_ok16, zm_ok16⟩)) (fun _ => ⟨zk_ok17, zm_ok17⟩))
theorem za_34 : ∀ a, a < 34 → (a + 1 ≠ 2 → zOK (a + 1)) := (lt_s (lt_s (lt_s (lt_s (lt_s (lt_s (lt_s (lt_s (lt_s (lt_s (lt_s (lt_s (lt_s (lt_s (lt_s (lt_s (lt_s za_17 (fun _ => ⟨zk_ok18, zm_ok18⟩)) (fun _ => ⟨zk_ok19, zm_ok19⟩)) (fun _ => ⟨zk_ok20, zm_ok20⟩)) (fun _ => ⟨zk_ok21, zm_ok21⟩)) (fun _ => ⟨zk_ok22, zm_ok22⟩)) (fun _ => ⟨zk_ok23, zm_ok23⟩)) (fun _ => ⟨zk_ok24, zm_ok24⟩)) (fun _ => ⟨zk_ok25, zm_ok25⟩)) (fun _ => ⟨zk_ok26, zm_ok26⟩)) (fun _ => ⟨zk_ok27, zm_ok27⟩)) (fun _ => ⟨zk_ok28, zm_ok28⟩)) (fun _ => ⟨zk_ok29, zm_ok29⟩)) (fun _ => ⟨zk_ok30, zm_ok30⟩)) (fun _ => ⟨zk_ok31, zm_ok31⟩)) (fun _ => ⟨zk_ok32, zm_ok32⟩)) (fun _ => ⟨zk_ok33, zm_ok33⟩)) (fun _ => ⟨zk_ok34, zm_ok34⟩))
theorem za_51 : ∀ a, a < 51 → (a + 1 ≠ 2 → zOK (a + 1)) := (lt_s (lt_s (lt_s (lt_s (lt_s (lt_s (lt_s (lt_s (lt_s (lt_s (lt_s (lt_s (lt_s (lt_s (lt_s (lt_s (lt_s za_34 (fun _ => ⟨zk_ok35, zm_ok35⟩)) (fun _ => ⟨zk_ok36, zm_ok36⟩)) (fun _ => ⟨zk_ok37, zm_ok37⟩)) (fun _ => ⟨zk_ok38, zm_ok38⟩)) (fun _ => ⟨zk_ok39, zm_ok39⟩)) (fun _ => ⟨zk_ok40, zm_ok40⟩)) (fun _ => ⟨zk_ok41, zm_ok41⟩)) (fun _ => ⟨zk_ok42, zm_ok42⟩)) (fun _ => ⟨zk_ok43, zm_ok43⟩)) (fun _ => ⟨zk_ok44, zm_ok44⟩)) (fun _ => ⟨zk_ok45, zm_ok45⟩)) (fun _ => ⟨zk_ok46, zm_ok46⟩)) (fun _ => ⟨zk_ok47, zm_ok47⟩)) (fun _ => ⟨zk_ok48, zm_ok48⟩)) (fun _ => ⟨zk_ok49, zm_ok49⟩)) (fun _ => ⟨zk_ok50, zm_ok50⟩)) (fun _ => ⟨zk_ok51, zm_ok51⟩))
theorem za_68 : ∀ a, a < 68 → (a + 1 ≠ 2 → zOK (a + 1)) := (lt_s (lt_s (lt_s (lt_s (lt_s (lt_s (lt_s (lt_s (lt_s (lt_s (lt_s (lt_s (lt_s (lt_s (lt_s (lt_s (lt_s za_51 (fun _ => ⟨zk_ok52, zm_ok52⟩)) (fun _ => ⟨zk_ok53, zm_ok53⟩)) (fun _ => ⟨zk_ok54, zm_ok54⟩)) (fun _ => ⟨zk_ok55, zm_ok55⟩)) (fun _ => ⟨zk_ok56, zm_ok56⟩)) (fun _ => ⟨zk_ok57, zm_ok57⟩)) (fun _ => ⟨zk_ok58, zm_ok58⟩)) (fun _ => ⟨zk_ok59, zm_ok59⟩)) (fun _ => ⟨zk_ok60, zm_ok60⟩)) (fun _ => ⟨zk_ok61, zm_ok61⟩)) (fun _ => ⟨zk_ok62, zm_ok62⟩)) (fun _ => ⟨zk_ok63, zm_ok63⟩)) (fun _ => ⟨zk_ok64, zm_ok64⟩)) (fun _ => ⟨zk_ok65, zm_ok65⟩)) (fun _ => ⟨zk_ok66, zm_ok66⟩)) (fun _ => ⟨zk_ok67, zm_ok67⟩)) (fun _ => ⟨zk_ok68, zm_ok68⟩))
theorem za_85 : ∀ a, a < 85 → (a + 1 ≠ 2 → zOK (a + 1)) := (lt_s (lt_s (lt_s (lt_s (lt_s (lt_s (lt_s (lt_s (lt_s (lt_s (lt_s (lt_s (lt_s (lt_s (lt_s (lt_s (lt_s za_68 (fun _ => ⟨zk_ok69, zm_ok69⟩)) (fun _ => ⟨zk_ok70, zm_ok70⟩)) (fun _ => ⟨zk_ok71, zm_ok71⟩)) (fun _ => ⟨zk_ok72, zm_ok72⟩)) (fun _ => ⟨zk_ok73, zm_ok73⟩)) (fun _ => ⟨zk_ok74, zm_ok74⟩)) (fun _ => ⟨zk_ok75, zm_ok75⟩)) (fun _ => ⟨zk_ok76, zm_ok76⟩)) (fun _ => ⟨zk_ok77, zm_ok77⟩)) (fun _ => ⟨zk_ok78, zm_ok78⟩)) (fun _ => ⟨zk_ok79, zm_ok79⟩)) (fun _ => ⟨zk_ok80, zm_ok80⟩)) (fun _ => ⟨zk_ok81, zm_ok81⟩)) (fun _ => ⟨zk_ok82, zm_ok82⟩)) (fun _ => ⟨zk_ok83, zm_ok83⟩)) (fun _ => ⟨zk_ok84, zm_ok84⟩)) (fun _ => ⟨zk_ok85, zm_ok85⟩))
theorem za_102 : ∀ a, a < 102 → (a + 1 ≠ 2 → zOK (a + 1)) := (lt_s (lt_s (lt_s (lt_s (lt_s (lt_s (lt_s (lt_s (lt_s (lt_s (lt_s (lt_s (lt_s (lt_s (lt_s (lt_s (lt_s za_85 (fun _ => ⟨zk_ok86, zm_ok86⟩)) (fun _ => ⟨zk_ok87, zm_ok87⟩)) (fun _ => ⟨zk_ok88, zm_ok88⟩)) (fun _ => ⟨zk_ok89, zm_ok89⟩)) (fun _ => ⟨zk_ok90, zm_ok90⟩)) (fun _ => ⟨zk_ok91, zm_ok91⟩)) (fun _ => ⟨zk_ok92, zm_ok92⟩)) (fun _ => ⟨zk_ok93, zm_ok93⟩)) (fun _ => ⟨zk_ok94, zm_ok94⟩)) (fun _ => ⟨zk_ok95, zm_ok95⟩)) (fun _ => ⟨zk_ok96, zm_ok96⟩)) (fun _ => ⟨zk_ok97, zm_ok97⟩)) (fun _ => ⟨zk_ok98, zm_ok98⟩)) (fun _ => ⟨zk_ok99, zm_ok99⟩)) (fun _ => ⟨zk_ok100, zm_ok100⟩)) (fun _ => ⟨zk_ok101, zm_ok101⟩)) (fun _ => ⟨zk_ok102, zm_ok102⟩))
theorem za_119 : ∀ a, a < 119 → (a + 1 ≠ 2 → zOK (a + 1)) := (lt_s (lt_s (lt_s (lt_s (lt_s (lt_s (lt_s (lt_s (lt_s (lt_s (lt_s (lt_s (lt_s (lt_s (lt_s (lt_s (lt_s za_102 (fun _ => ⟨zk_ok103, zm_ok103⟩)) (fun _ => ⟨zk_ok104, zm_ok104⟩)) (fun _ => ⟨zk_ok105, zm_ok105⟩)) (fun _ => ⟨zk_ok106, zm_ok106⟩)) (fun _ => ⟨zk_ok107, zm_ok107⟩)) (fun _ => ⟨zk_ok108, zm_ok108⟩)) (fun _ => ⟨zk_ok109, zm_ok109⟩)) (fun _ => ⟨zk_ok110, zm_ok110⟩)) (fun _ => ⟨zk_ok111, zm_ok111⟩)) (fun _ => ⟨zk_ok112, zm_ok112⟩)) (fun _ => ⟨zk_ok113, zm_ok113⟩)) (fun _ => ⟨zk_ok114, zm_ok114⟩)) (fun _ => ⟨zk_ok115, zm_ok115⟩)) (fun _ => ⟨zk_ok116, zm_ok116⟩)) (fun _ => ⟨zk_ok117, zm_ok117⟩)) (fun _ => ⟨zk_ok118, zm_ok118⟩)) (fun _ => ⟨zk_ok119, zm_ok119⟩))
theorem za_136 : ∀ a, a < 136 → (a + 1 ≠ 2 → zOK (a + 1)) := (lt_s (lt_s (lt_s (lt_s (lt_s (lt_s (lt_s (lt_s (lt_s (lt_s (lt_s (lt_s (lt_s (lt_s (lt_s (lt_s (lt_s za_119 (fun _ => ⟨zk_ok120, zm_ok120⟩)) (fun _ => ⟨zk_ok121, zm_ok121⟩)) (fun _ => ⟨zk_ok122, zm_ok122⟩)) (fun _ => ⟨zk_ok123, zm_ok123⟩)) (fun _ => ⟨zk_ok124, zm_ok124⟩)) (fun _ => ⟨zk_ok125, zm_ok125⟩)) (fun _ => ⟨zk_ok126, zm_ok126⟩)) (fun _ => ⟨zk_ok127, zm_ok127⟩)) (fun _ => ⟨zk_ok128, zm_ok128⟩)) (fun _ => ⟨zk_ok129, zm_ok129⟩)) (fun _ => ⟨zk_ok130, zm_ok130⟩)) (fun _ => ⟨zk_ok131, zm_ok131⟩)) (fun _ => ⟨zk_ok132, zm_ok132⟩)) (fun _ => ⟨zk_ok133, zm_ok133⟩)) (fun _ => ⟨zk_ok134, zm_ok134⟩)) (fun _ => ⟨zk_ok135, zm_ok135⟩)) (fun _ => ⟨zk_ok136, zm_ok136⟩))
theorem za_153 : ∀ a, a < 153 → (a + 1 ≠ 2 → zOK (a + 1)) := (lt_s (lt_s (lt_s (lt_s (lt_s (lt_s (lt_s (lt_s (lt_s (lt_s (lt_s (lt_s (lt_s (lt_s (lt_s (lt_s (lt_s za_136 (fun _ => ⟨zk_ok137, zm_ok137⟩)) (fun _ => ⟨zk_ok138, zm_ok138⟩)) (fun _ => ⟨zk_ok139, zm_ok139⟩)) (fun _ => ⟨zk_ok140, zm_ok140⟩)) (fun _ => ⟨zk_ok141, zm_ok141⟩)) (fun _ => ⟨zk_ok142, zm_ok142⟩)) (fun _ => ⟨zk_ok143, zm_ok143⟩)) (fun _ => ⟨zk_ok144, zm_ok144⟩)) (fun _ => ⟨zk_ok145, zm_ok145⟩)) (fun _ => ⟨zk_ok146, zm_ok146⟩)) (fun _ => ⟨zk_ok147, zm_ok147⟩)) (fun _ => ⟨zk_ok148, zm_ok148⟩)) (fun _ => ⟨zk_ok149, zm_ok149⟩)) (fun _ => ⟨zk_ok150, zm_ok150⟩)) (fun _ => ⟨zk_ok151, zm_ok151⟩)) (fun _ => ⟨zk_ok152, zm_ok152⟩)) (fun _ => ⟨zk_ok153, zm_ok153⟩))
theorem za_170 : ∀ a, a < 170 → (a + 1 ≠ 2 → zOK (a + 1)) := (lt_s (lt_s (lt_s (lt_s (lt_s (lt_s (lt_s (lt_s (lt_s (lt_s (lt_s (lt_s (lt_s (lt_s (lt_s (lt_s (lt_s za_153 (fun _ => ⟨zk_ok154, zm_ok154⟩)) (fun _ => ⟨zk_ok155, zm_ok155⟩)) (fun _ => ⟨zk_ok156, zm_ok156⟩)) (fun _ => ⟨zk_ok157, zm_ok157⟩)) (fun _ => ⟨zk_ok158, zm_ok158⟩)) (fun _ => ⟨zk_ok159, zm_ok159⟩)) (fun _ => ⟨zk_ok160, zm_ok160⟩)) (fun _ => ⟨zk_ok161, zm_ok161⟩)) (fun _ => ⟨zk_ok162, zm_ok162⟩)) (fun _ => ⟨zk_ok163, zm_ok163⟩)) (fun _ => ⟨zk_ok164, zm_ok164⟩)) (fun _ => ⟨zk_ok165, zm_ok165⟩)) (fun _ => ⟨zk_ok166, zm_ok166⟩)) (fun _ => ⟨zk_ok167, zm_ok167⟩)) (fun _ => ⟨zk_ok168, zm_ok168⟩)) (fun _ => ⟨zk_ok169, zm_ok169⟩)) (fun _ => ⟨zk_ok170, zm_ok170⟩))
theorem za_187 : ∀ a, a < 187 → (a + 1 ≠ 2 → zOK (a + 1)) := (lt_s (lt_s (lt_s (lt_s (lt_s (lt_s (lt_s (lt_s (lt_s (lt_s (lt_s (lt_s (lt_s (lt_s (lt_s (lt_s (lt_s za_170 (fun _ => ⟨zk_ok171, zm_ok171⟩)) (fun _ => ⟨zk_ok172, zm_ok172⟩)) (fun _ => ⟨zk_ok173, zm_ok173⟩)) (fun _ => ⟨zk_ok174, zm_ok174⟩)) (fun _ => ⟨zk_ok175, zm_ok175⟩)) (fun _ => ⟨zk_ok176, zm_ok176⟩)) (fun _ => ⟨zk_ok177, zm_ok177⟩)) (fun _ => ⟨zk_ok178, zm_ok178⟩)) (fun _ => ⟨zk_ok179, zm_ok179⟩)) (fun _ => ⟨zk_ok180, zm_ok180⟩)) (fun _ => ⟨zk_ok181, zm_ok181⟩)) (fun _ => ⟨zk_ok182, zm_ok182⟩)) (fun _ => ⟨zk_ok183, zm_ok183⟩)) (fun _ => ⟨zk_ok184, zm_ok184⟩)) (fun _ => ⟨zk_ok185, zm_ok185⟩)) (fun _ => ⟨zk_ok186, zm_ok186⟩)) (fun _ => ⟨zk_ok187, zm_ok187⟩))
theorem za_204 : ∀ a, a < 204 → (a + 1 ≠ 2 → zOK (a + 1)) := (lt_s (lt_s (lt_s (lt_s (lt_s (lt_s (lt_s (lt_s (lt_s (lt_s (lt_s (lt_s (lt_s (lt_s (lt_s (lt_s (lt_s za_187 (fun _ => ⟨zk_ok188, zm_ok188⟩)) (fun _ => ⟨zk_ok189, zm_ok189⟩)) (fun _ => ⟨zk_ok190, zm_ok190⟩)) (fun _ => ⟨zk_ok191, zm_ok191⟩)) (fun _ => ⟨zk_ok192, zm_ok192⟩)) (fun _ => ⟨zk_ok193, zm_ok193⟩)) (fun _ => ⟨zk_ok194, zm_ok194⟩)) (fun _ => ⟨zk_ok195, zm_ok195⟩)) (fun _ => ⟨zk_ok196, zm_ok196⟩)) (fun _ => ⟨zk_ok197, zm_ok197⟩)) (fun _ => ⟨zk_ok198, zm_ok198⟩)) (fun _ => ⟨zk_ok199, zm_ok199⟩)) (fun _ => ⟨zk_ok200, zm_ok200⟩)) (fun _ => ⟨zk_ok201, zm_ok201⟩)) (fun _ => ⟨zk_ok202, zm_ok202⟩)) (fun _ => ⟨zk_ok203, zm_ok203⟩)) (fun _ => ⟨zk_ok204, zm_ok204⟩))
theorem za_221 : ∀ a, a < 221 → (a + 1 ≠ 2 → zOK (a + 1)) := (lt_s (lt_s (lt_s (lt_s (lt_s (lt_s (lt_s (lt_s (lt_s (lt_s (lt_s (lt_s (lt_s (lt_s (lt_s (lt_s (lt_s za_204 (fun _ => ⟨zk_ok205, zm_ok205⟩)) (fun _ => ⟨zk_ok206, zm_ok206⟩)) (fun _ => ⟨zk_ok207, zm_ok207⟩)) (fun _ => ⟨zk_ok208, zm_ok208⟩)) (fun _ => ⟨zk_ok209, zm_ok209⟩)) (fun _ => ⟨zk_ok210, zm_ok210⟩)) (fun _ => ⟨zk_ok211, zm_ok211⟩)) (fun _ => ⟨zk_ok212, zm_ok212⟩)) (fun _ => ⟨zk_ok213, zm_ok213⟩)) (fun _ => ⟨zk_ok214, zm_ok214⟩)) (fun _ => ⟨zk_ok215, zm_ok215⟩)) (fun _ => ⟨zk_ok216, zm_ok216⟩)) (fun _ => ⟨zk_ok217, zm_ok217⟩)) (fun _ => ⟨zk_ok218, zm_ok218⟩)) (fun _ => ⟨zk_ok219, zm_ok219⟩)) (fun _ => ⟨zk_ok220, zm_ok220⟩)) (fun _ => ⟨zk_ok221, zm_ok221⟩))
theorem za_238 : ∀ a, a < 238 → (a + 1 ≠ 2 → zOK (a + 1)) := (lt_s (lt_s (lt_s (lt_s (lt_s (lt_s (lt_s (lt_s (lt_s (lt_s (lt_s (lt_s (lt_s (lt_s (lt_s (lt_s (lt_s za_221 (fun _ => ⟨zk_ok222, zm_ok222⟩)) (fun _ => ⟨zk_ok223, zm_ok223⟩)) (fun _ => ⟨zk_ok224, zm_ok224⟩)) (fun _ => ⟨zk_ok225, zm_ok225⟩)) (fun _ => ⟨zk_ok226, zm_ok226⟩)) (fun _ => ⟨zk_ok227, zm_ok227⟩)) (fun _ => ⟨zk_ok228, zm_ok228⟩)) (fun _ => ⟨zk_ok229, zm_ok229⟩)) (fun _ => ⟨zk_ok230, zm_ok230⟩)) (fun _ => ⟨zk_ok231, zm_ok231⟩)) (fun _ => ⟨zk_ok232, zm_ok232⟩)) (fun _ => ⟨zk_ok233, zm_ok233⟩)) (fun _ => ⟨zk_ok234, zm_ok234⟩)) (fun _ => ⟨zk_ok235, zm_ok235⟩)) (fun _ => ⟨zk_ok236, zm_ok236⟩)) (fun _ => ⟨zk_ok237, zm_ok237⟩)) (fun _ => ⟨zk_ok238, zm_ok238⟩))
theorem za_255 : ∀ a, a < 255 → (a + 1 ≠ 2 → zOK (a + 1)) := (lt_s (lt_s (lt_s (lt_s (lt_s (lt_s (lt_s (lt_s (lt_s (lt_s (lt_s (lt_s (lt_s (lt_s (lt_s (lt_s (lt_s za_238 (fun _ => ⟨zk_ok239, zm_ok239⟩)) (fun _ => ⟨zk_ok240, zm_ok240⟩)) (fun _ => ⟨zk_ok241, zm_ok241⟩)) (fun _ => ⟨zk_ok242, zm_ok242⟩)) (fun _ => ⟨zk_ok243, zm_ok243⟩)) (fun _ => ⟨zk_ok244, zm_ok244⟩)) (fun _ => ⟨zk_ok245, zm_ok245⟩)) (fun _ => ⟨zk_ok246, zm_ok246⟩)) (fun _ => ⟨zk_ok247, zm_ok247⟩)) (fun _ => ⟨zk_ok248, zm_ok248⟩)) (fun _ => ⟨zk_ok249, zm_ok249⟩)) (fun _ => ⟨zk_ok250, zm_ok250⟩)) (fun _ => ⟨zk_ok251, zm_ok251⟩)) (fun _ => ⟨zk_ok252, zm_ok252⟩)) (fun _ => ⟨zk_ok253, zm_ok253⟩)) (fun _ => ⟨zk_ok254, zm_ok254⟩)) (fun _ => ⟨zk_ok255, zm_ok255⟩))
theorem za_272 : ∀ a, a < 272 → (a + 1 ≠ 2 → zOK (a + 1)) := (lt_s (lt_s (lt_s (lt_s (lt_s (lt_s (lt_s (lt_s (lt_s (lt_s (lt_s (lt_s (lt_s (lt_s (lt_s (lt_s (lt_s za_255 (fun _ => ⟨zk_ok256, zm_ok256⟩)) (fun _ => ⟨zk_ok257, zm_ok257⟩)) (fun _ => ⟨zk_ok258, zm_ok258⟩)) (fun _ => ⟨zk_ok259, zm_ok259⟩)) (fun _ => ⟨zk_ok260, zm_ok260⟩)) (fun _ => ⟨zk_ok261, zm_ok261⟩)) (fun _ => ⟨zk_ok262, zm_ok262⟩)) (fun _ => ⟨zk_ok263, zm_ok263⟩)) (fun _ => ⟨zk_ok264, zm_ok264⟩)) (fun _ => ⟨zk_ok265, zm_ok265⟩)) (fun _ => ⟨zk_ok266, zm_ok266⟩)) (fun _ => ⟨zk_ok267, zm_ok267⟩)) (fun _ => ⟨zk_ok268, zm_ok268⟩)) (fun _ => ⟨zk_ok269, zm_ok269⟩)) (fun _ => ⟨zk_ok270, zm_ok270⟩)) (fun _ => ⟨zk_ok271, zm_ok271⟩)) (fun _ => ⟨zk_ok272, zm_ok272⟩))
theorem za_289 : ∀ a, a < 289 → (a + 1 ≠ 2 → zOK (a + 1)) := (lt_s (lt_s (lt_s (lt_s (lt_s (lt_s (lt_s (lt_s (lt_s (lt_s (lt_s (lt_s (lt_s (lt_s (lt_s (lt_s (lt_s za_272 (fun _ => ⟨zk_ok273, zm_ok273⟩)) (fun _ => ⟨zk_ok274, zm_ok274⟩)) (fun _ => ⟨zk_ok275, zm_ok275⟩)) (fun _ => ⟨zk_ok276, zm_ok276⟩)) (fun _ => ⟨zk_ok277, zm_ok277⟩)) (fun _ => ⟨zk_ok278, zm_ok278⟩)) (fun _ => ⟨zk_ok279, zm_ok279⟩)) (fun _ => ⟨zk_ok280, zm_ok280⟩)) (fun _ => ⟨zk_ok281, zm_ok281⟩)) (fun _ => ⟨zk_ok282, zm_ok282⟩)) (fun _ => ⟨zk_ok283, zm_ok283⟩)) (fun _ => ⟨zk_ok284, zm_ok284⟩)) (fun _ => ⟨zk_ok285, zm_ok285⟩)) (fun _ => ⟨zk_ok286, zm_ok286⟩)) (fun _ => ⟨zk_ok287, zm_ok287⟩)) (fun _ => ⟨zk_ok288, zm_ok288⟩)) (fun _ => ⟨zk_ok289, zm_ok289⟩))
theorem z_hall : ∀ t, 0 < t → t < zMs.length → t ≠ 2 → zOK t := by
  intro t h0 h1 h2
  have hl : zMs.length = 290 := by decide +kernel
  obtain ⟨a, rfl⟩ : ∃ a, t = a + 1 := ⟨t - 1, by omega⟩
  exact za_289 a (by omega) h2
theorem zcode_app : ∀ (a b : List (Option zC)) (y p : Nat), zcode a y p = true → zcode b y (p + a.length) = true → zcode (a ++ b) y p = true
  | [], b, y, p, h1, h2 => h2
  | none :: a, b, y, p, h1, h2 => zcode_app a b y (p + 1) h1 (by rw [List.length_cons, Nat.add_comm a.length 1, ← Nat.add_assoc] at h2; exact h2)
  | some i :: a, b, y, p, h1, h2 => by
    simp only [zcode, Bool.and_eq_true] at h1
    simp only [List.cons_append, zcode, Bool.and_eq_true]
    exact ⟨h1.1, zcode_app a b y (p + 1) h1.2 (by rw [List.length_cons, Nat.add_comm a.length 1, ← Nat.add_assoc] at h2; exact h2)⟩
theorem zcode_app2 {a b : List (Option zC)} {y n m k : Nat} (h : zcode a y 0 = true ∧ a.length = n) (hb : zcode b y n = true) (hl : b.length = m) (hk : n + m = k) : zcode (a ++ b) y 0 = true ∧ (a ++ b).length = k :=
  ⟨zcode_app a b y 0 h.1 (by rw [Nat.zero_add, h.2]; exact hb), by rw [List.length_append, h.2, hl, hk]⟩
theorem zk_law : zcode zk0 0 0 = true := by
  have h0 : zcode zk0_0 0 0 = true ∧ zk0_0.length = 90 := ⟨zkl_0, by decide +kernel⟩
  have h1 := zcode_app2 (m := 90) (k := 180) h0 zkl_1 (by decide +kernel) (by decide)
  have h2 := zcode_app2 (m := 90) (k := 270) h1 zkl_2 (by decide +kernel) (by decide)
  have h3 := zcode_app2 (m := 90) (k := 360) h2 zkl_3 (by decide +kernel) (by decide)
  have h4 := zcode_app2 (m := 90) (k := 450) h3 zkl_4 (by decide +kernel) (by decide)
  have h5 := zcode_app2 (m := 90) (k := 540) h4 zkl_5 (by decide +kernel) (by decide)
  have h6 := zcode_app2 (m := 90) (k := 630) h5 zkl_6 (by decide +kernel) (by decide)
  have h7 := zcode_app2 (m := 90) (k := 720) h6 zkl_7 (by decide +kernel) (by decide)
  have h8 := zcode_app2 (m := 90) (k := 810) h7 zkl_8 (by decide +kernel) (by decide)
  have h9 := zcode_app2 (m := 90) (k := 900) h8 zkl_9 (by decide +kernel) (by decide)
  have h10 := zcode_app2 (m := 90) (k := 990) h9 zkl_10 (by decide +kernel) (by decide)
  have h11 := zcode_app2 (m := 90) (k := 1080) h10 zkl_11 (by decide +kernel) (by decide)
  have h12 := zcode_app2 (m := 90) (k := 1170) h11 zkl_12 (by decide +kernel) (by decide)
  have h13 := zcode_app2 (m := 90) (k := 1260) h12 zkl_13 (by decide +kernel) (by decide)
  have h14 := zcode_app2 (m := 90) (k := 1350) h13 zkl_14 (by decide +kernel) (by decide)
  have h15 := zcode_app2 (m := 90) (k := 1440) h14 zkl_15 (by decide +kernel) (by decide)
  have h16 := zcode_app2 (m := 90) (k := 1530) h15 zkl_16 (by decide +kernel) (by decide)
  have h17 := zcode_app2 (m := 90) (k := 1620) h16 zkl_17 (by decide +kernel) (by decide)
  have h18 := zcode_app2 (m := 90) (k := 1710) h17 zkl_18 (by decide +kernel) (by decide)
  have h19 := zcode_app2 (m := 90) (k := 1800) h18 zkl_19 (by decide +kernel) (by decide)
  have h20 := zcode_app2 (m := 90) (k := 1890) h19 zkl_20 (by decide +kernel) (by decide)
  have h21 := zcode_app2 (m := 90) (k := 1980) h20 zkl_21 (by decide +kernel) (by decide)
  have h22 := zcode_app2 (m := 90) (k := 2070) h21 zkl_22 (by decide +kernel) (by decide)
  have h23 := zcode_app2 (m := 90) (k := 2160) h22 zkl_23 (by decide +kernel) (by decide)
  have h24 := zcode_app2 (m := 90) (k := 2250) h23 zkl_24 (by decide +kernel) (by decide)
  have h25 := zcode_app2 (m := 3) (k := 2253) h24 zkl_25 (by decide +kernel) (by decide)
  exact h25.1
/-- the cells that are there at the start -/
def zH0 (xs : Nat → Int32) : Int → Int → Int := fun a j =>
  if a = 0 then (xs j.toNat).toInt else if a = 1 then zsmall.getD j.toNat 0 else if 10 ≤ a ∧ a < 18 then (zstrs.getD (a - 10).toNat []).getD j.toNat 0 else 0
def zRun (L : Nat) (xs : Nat → Int32) : Prop := ∃ (n : Nat) (S' : zHp), ex n 2000 0 0 [zR 0, zJ, zJ, zJ] [] (L, [], zH0 xs) = some (zI 1, S') ∧ S'.2.1.length ≤ 600000 ∧ zslots S' ≤ 7302250
def zGiven : List Cond := flatC (Jvm.Cond.and given_1 narrow_1)
theorem zg_in {args : Array Value} {s : State} (h : (Jvm.Cond.and given_1 narrow_1).before args s = true) (p : Nat) (w : Cond) (hw : zat zGiven p = some w) : w.before args s = true := flat_of_before _ h _ (zat_mem _ _ _ hw)
theorem zg_small : (List.range 168).all (fun j => decide (zat zGiven (12 + j) = some (Cond.eq (.elem (.static "SumWalker$Primes" "SMALL" "[I") (.int (Int32.ofNat j))) (.int (Int32.ofInt (zsmall.getD j 0)))))) = true := by decide +kernel
def zspl : List Nat := [180, 187, 197, 208, 218, 231, 247, 264]
def ztm (i : Nat) : Term := .string "SumWalker$Reader" (zstrix.getD i 0)
theorem zg_str : (List.range 8).all (fun i => decide (zat zGiven (zspl.getD i 0) = some (Cond.exactly (ztm i) "java/lang/String")) && decide (zat zGiven (zspl.getD i 0 + 1) = some (Cond.eq (.field (ztm i) "java/lang/String" "coder" "B") (.int 0))) && decide (zat zGiven (zspl.getD i 0 + 2) = some (Cond.arrayOf (.field (ztm i) "java/lang/String" "value" "[B") .byte)) &&
  decide (zat zGiven (zspl.getD i 0 + 3) = some (Cond.eq (.length (.field (ztm i) "java/lang/String" "value" "[B")) (.int (Int32.ofNat (zstrlen.getD i 0))))) && (List.range (zstrlen.getD i 0)).all (fun j => decide (zat zGiven (zspl.getD i 0 + 4 + j) = some (Cond.eq (.elem (.field (ztm i) "java/lang/String" "value" "[B") (.int (Int32.ofNat j))) (.int ((zstrbyt.getD i []).getD j 0)))))) = true := by decide +kernel
def znepl : List Nat := [196, 206, 207, 215, 216, 217, 227, 228, 229, 230, 242, 243, 244, 245, 246, 258, 259, 260, 261, 262, 263, 272, 273, 274, 275, 276, 277, 278]
def znepr : List (Nat × Nat) := [(0, 1), (0, 2), (1, 2), (0, 3), (1, 3), (2, 3), (0, 4), (1, 4), (2, 4), (3, 4), (0, 5), (1, 5), (2, 5), (3, 5), (4, 5), (0, 6), (1, 6), (2, 6), (3, 6), (4, 6), (5, 6), (0, 7), (1, 7), (2, 7), (3, 7), (4, 7), (5, 7), (6, 7)]
theorem zg_ne : (znepr.zip znepl).all (fun q => decide (zat zGiven q.2 = some (Cond.not (Cond.eq (ztm q.1.1) (ztm q.1.2))))) = true := by decide +kernel
theorem znepr_all : ∀ i j : Nat, i < 8 → j < 8 → i < j → ∃ p, ((i, j), p) ∈ znepr.zip znepl := by
  have h : (List.range 8).all (fun j => (List.range j).all fun i => (znepr.zip znepl).any fun q => decide (q.1 = (i, j))) = true := by decide +kernel
  intro i j hi hj hij
  have h1 := List.all_eq_true.mp (List.all_eq_true.mp h j (List.mem_range.mpr hj)) i (List.mem_range.mpr hij)
  obtain ⟨q, hq, e⟩ := List.any_eq_true.mp h1
  simp only [decide_eq_true_eq] at e
  exact ⟨q.2, by rw [← e]; exact hq⟩
def R_law : String := "SumWalkerLaw"
def lw_P (b : Addr) (xs : List Int32) (args : Array Value) (s : State) : Prop := args = #[.ref b] ∧ s.IntsAt b xs ∧ xs.length ≤ 3072 ∧ (Jvm.Cond.and given_1 narrow_1).before args s = true
def lw_Q (_ : Array Value) (s : State) (o : Outcome) (t : State) : Prop := o = .returned (some (.int 1)) ∧ Framed s o t [] 600000 7302250
def lw_Z (below : List Frame) (a : Array Value) (s : State) : State → Prop := fun t => ∃ o, t.status = .running ∧ Ended t below o ∧ lw_Q a s o t
/-- the law's own end, with 1 on the stack, nothing written that was there before, its room as the claim has it -/
theorem lw_ret {p : Program} {l : Launch} {e : Env} {s : State} {m : MethodId} {below : List Frame} {meth : Method} {c : Code} {b : Nat} (hx : p.tables.exec = Jvm.exec) (hb : c.code = code) (hr : meth.sig.returnType = ret) (hlocks : meth.locks = false) {pc : Nat} {H : Heap} {ls : Array Slot} (hdg : decode code pc = .ok (.ireturn, 1)) : W p l e room_1 s m #[Value.ref b] below meth c H [] 600000 7302250 (lw_Z below #[Value.ref b] s) (F0 m pc ls [.int 1]) := by
  intro T hT X
  obtain ⟨fs, hret, hrun, hended, hW, hframe⟩ := X.leave (v := some (.int 1)) (hlocks := hlocks) (fun h => by rw [hr] at h; cases h)
  have hmeth' : T.vm.method? m = some meth := X.method'
  refine ⟨T.setFrames fs, ?_, .returned (some (.int 1)), hrun, hended, rfl, ⟨_, rfl⟩, hW, hframe⟩
  jvm_step X.here [X.here.top, hx, hb, hdg, hmeth', hr, ret, narrow_b1]
  (try refine ⟨rfl, ?_⟩); (try refine ⟨rfl, ?_⟩)
  first | (intro acts; rw [hret _ acts rfl rfl rfl]) | rw [hret _ _ rfl rfl rfl]
  exact Steps.refl _
/-- what holds at the law's entry: the machine, the code, the tables' words (any of lw_tbl by 'hts w (by decide +kernel)'), the script of L ints xs at the cell b, what the Statement gives of the start (any of its parts by flat_of_before) -/
def lw_At (p : Program) (s : State) (m : MethodId) (meth : Method) (c : Code) (b L : Nat) (xs : Nat → Int32) : Prop :=
  p.tables.exec = Jvm.exec ∧ c.code = code ∧ meth.sig.returnType = ret ∧ c.maxLocals = 4 ∧ s.vm.findClass R_law = some m.cls ∧ (∀ w ∈ lw_tbl, w.before #[Value.ref b] s = true) ∧ va_X b L xs s s.heap ∧ b < s.heap.size ∧ meth.locks = false ∧ (Jvm.Cond.and given_1 narrow_1).before #[Value.ref b] s = true
theorem zl_in {args : Array Value} {s : State} (hts : ∀ w ∈ lw_tbl, w.before args s = true) (p : Nat) (w : Cond) (h : zat (zpart (p / 1024)) (p % 1024) = some w) : w.before args s = true := hts w (zpart_in _ _ (zat_mem _ _ _ h))
theorem zInv0 {G : zG} (hL : gL G ≤ 3072) : zInv G (gL G, [], zH0 (gx G)) := by
  refine ⟨⟨rfl, by omega⟩, fun j => ?_, fun j hj => ?_, fun i hi j => ?_, fun i k n h => by simp at h⟩
  · show zH0 (gx G) 0 j = _
    unfold zH0
    rw [if_pos rfl]; rfl
  · show zH0 (gx G) 1 j = _
    unfold zH0
    rw [if_neg (by decide), if_pos rfl]; rfl
  · show zH0 (gx G) (10 + i) j = _
    unfold zH0
    rw [if_neg (by omega), if_neg (by omega), if_pos (by omega), show ((10 : Int) + i - 10).toNat = i by omega]; rfl
set_option maxHeartbeats 4000000 in
theorem whole_open {p : Program} {e : Env} {s : State} {m : MethodId} {below : List Frame} {meth : Method} {c : Code} (l : Launch) {b L : Nat} {xs : Nat → Int32} (hL : L ≤ 3072) (C0 : lw_At p s m meth c b L xs) (hrun : zRun L xs) : W p l e room_1 s m #[Value.ref b] below meth c s.heap [] 0 0 (lw_Z below #[Value.ref b] s) (entryFrame m ([Value.ref b] : List Value).toArray 4) := by
  obtain ⟨hx, hb, hr, hml, hown, hts, hX, hbl, hlocks, hgv⟩ := id C0
  have htz : ∀ w ∈ zTs, w.before #[Value.ref b] s = true := fun w hw => hts w (List.mem_filter.mp hw).1
  have zk : ∀ ci, ci < 7 → ∀ C T N ty, zCl ci C T N ty → ∃ (cC : ClassId) (iS : Nat → Nat), u_Kn s C T N cC iS := by
    intro ci hci C T N ty hCl
    have hi := (zinst_in hci).1
    have hCn : zCn ci = C := by unfold zCn; rw [List.getD_eq_getElem?_getD, hCl.1]; rfl
    rw [hCn] at hi
    exact u_known htz hCl.2.1 (htz _ hi)
  have hall : ∀ ci : Nat, ∃ (q : ClassId × (Nat → Nat)), ∀ r : vw_C, vwCl[ci]? = some r → u_Kn s r.1 r.2.1 r.2.2 q.1 q.2 := by
    intro ci
    by_cases hci : ci < 7
    · obtain ⟨C, T, N, ty, hCl⟩ := zCl_all hci
      obtain ⟨cC, iS, hK⟩ := zk ci hci C T N ty hCl
      refine ⟨(cC, iS), fun r hr => ?_⟩
      cases hCl.1.symm.trans hr
      exact hK
    · exact ⟨(0, fun _ => 0), fun r hr => by
        rw [List.getElem?_eq_none (by show 7 ≤ ci; omega)] at hr
        cases hr⟩
  obtain ⟨dq, hdq⟩ := Classical.axiomOfChoice hall
  -- array classes
  have arr : ∀ t : FieldType, Cond.arrayClass t ∈ zTs → ∃ cA : ClassId, ArrOfT s cA t ∧ s.vm.findClass ("[" ++ t.toString) = some cA := by
    intro t ht
    obtain ⟨cA, k, comp, h1, h2, h3⟩ := Cond.arrayClass_spec (show (Cond.arrayClass t).holds #[Value.ref b] s none s [] = true from htz _ ht)
    exact ⟨cA, fun n z => ⟨fun k h => (by cases h), k, h2, comp, h3⟩, h1⟩
  obtain ⟨a0, A0, B0⟩ := arr _ zw_int
  obtain ⟨a1, A1, B1⟩ := arr _ zw_long
  obtain ⟨a2, A2, B2⟩ := arr _ zw_byte
  obtain ⟨a3, A3, B3⟩ := arr _ zw_bool
  have arq : ∀ C : String, (Cond.arrayOver (.object C)).before #[Value.ref b] s = true → ∃ cA : ClassId, ArrOfT s cA (.object C) ∧ va_RA s cA (.object C) := by
    intro C hC
    obtain ⟨comp, cA, k, h1, -, h3, h4, h5⟩ := Cond.arrayOver_spec (show (Cond.arrayOver (.object C)).holds #[Value.ref b] s none s [] = true from hC)
    exact ⟨cA, fun n z => ⟨fun k h => (by cases h), k, h3, comp, h4⟩, k, comp, h3, h4, h1, h5⟩
  have o4 : (Cond.arrayOver (.object RX0)).before #[Value.ref b] s = true := zl_in hts 1154 _ (by decide +kernel)
  have o5 : (Cond.arrayOver (.object RX4)).before #[Value.ref b] s = true := zl_in hts 1156 _ (by decide +kernel)
  obtain ⟨a4, A4, B4⟩ := arq _ o4
  obtain ⟨a5, A5, B5⟩ := arq _ o5
  have hA : ∀ a : Nat, a < s.heap.size → ¬ s.heap.size ≤ a := fun a h q => by omega
  -- the table, the statics
  obtain ⟨tS, htS, hTS⟩ := va_Tof (s := s) (args := #[Value.ref b]) (tm := .static "SumWalker$Primes" "SMALL" "[I") (ty := .int) (N := 168) (f := fun j => .int (Int32.ofInt (zsmall.getD j 0))) (A := fun q => s.heap.size ≤ q) (by decide)
    (zg_in hgv 10 _ (by decide +kernel)) (va_eqt (zg_in hgv 11 _ (by decide +kernel)))
    (fun j hj => va_eqt (zg_in hgv (12 + j) _ (by
      have := List.all_eq_true.mp zg_small j (List.mem_range.mpr hj)
      simpa using this))) hA
  have hZS := va_Zref (s := s) (args := #[Value.ref b]) (A := fun q => s.heap.size ≤ q) (zl_in hts 2210 (.laysStatic "SumWalker$Primes" "SMALL" "[I") (by decide +kernel)) (zl_in hts 1027 (.initialized "SumWalker$Primes") (by decide +kernel)) htS hA
  have hZC := va_Zof (s := s) (args := #[Value.ref b]) (A := fun q => s.heap.size ≤ q) (zl_in hts 2099 (.laysStatic "java/lang/String" "COMPACT_STRINGS" "Z") (by decide +kernel)) (zl_in hts 1033 (.initialized "java/lang/String") (by decide +kernel)) (va_eqi (zg_in hgv 4 (.eq (.static "java/lang/String" "COMPACT_STRINGS" "Z") (.int 1)) (by decide +kernel))) hA
  have hZF := va_Zqof (s := s) (args := #[Value.ref b]) (A := fun q => s.heap.size ≤ q) (zl_in hts 2115 (.laysStatic zFmt.1 zFmt.2.1 zFmt.2.2) (by decide +kernel)) (zl_in hts 1035 (.initialized zFmt.1) (by decide +kernel)) (zg_in hgv 5 _ (by decide +kernel)) hA
  obtain ⟨fv, hfv, hZf⟩ : ∃ fv : Value, (fv = .null ∨ ∃ t, fv = .ref t) ∧ va_Z zFmt.1 zFmt.2.1 zFmt.2.2 fv (fun q => s.heap.size ≤ q) s s.heap := by
    rcases hZF with h | ⟨t, h⟩
    · exact ⟨_, Or.inl rfl, h⟩
    · exact ⟨_, Or.inr ⟨t, rfl⟩, h⟩
  -- texts
  have hstr := fun i (hi : i < 8) => List.all_eq_true.mp zg_str i (List.mem_range.mpr hi)
  obtain ⟨adK, adV, hST, hev⟩ := vk_Sof (s := s) (args := #[Value.ref b]) (N := 8) (tm := ztm) (len := zstrlen) (byt := zstrbyt) (A := fun q => s.heap.size ≤ q)
    (fun i hi => by rw [zstr_len hi]; have : ∀ j, j < 8 → (zstrs.getD j []).length < 2 ^ 31 := by decide
                    exact this i hi)
    (fun i hi => by have := hstr i hi; simp only [Bool.and_eq_true, decide_eq_true_eq] at this; exact zg_in hgv _ _ this.1.1.1.1)
    (fun i hi => by have := hstr i hi; simp only [Bool.and_eq_true, decide_eq_true_eq] at this; exact zg_in hgv _ _ this.1.1.1.2)
    (fun i hi => by have := hstr i hi; simp only [Bool.and_eq_true, decide_eq_true_eq] at this; exact zg_in hgv _ _ this.1.1.2)
    (fun i hi => by have := hstr i hi; simp only [Bool.and_eq_true, decide_eq_true_eq] at this; exact zg_in hgv _ _ this.1.2)
    (fun i hi j hj => by
      have := hstr i hi
      simp only [Bool.and_eq_true, decide_eq_true_eq] at this
      have h2 := List.all_eq_true.mp this.2 j (List.mem_range.mpr hj)
      simp only [decide_eq_true_eq] at h2
      exact zg_in hgv _ _ h2)
    (fun i j hi hj hij => by
      have key : ∀ i j : Nat, i < 8 → j < 8 → i < j → (Cond.not (Cond.eq (ztm i) (ztm j))).before #[Value.ref b] s = true := by
        intro i j hi hj hij
        obtain ⟨p, hp⟩ := znepr_all i j hi hj hij
        have := List.all_eq_true.mp zg_ne _ hp
        simp only [decide_eq_true_eq] at this
        exact zg_in hgv _ _ this
      rcases Nat.lt_or_ge i j with q | q
      · exact Or.inl (key i j hi hj q)
      · exact Or.inr (key j i hj hi (by omega)))
    hA
  let G : zG := (b, s.heap.size, L, xs, (fun k => (dq k).1, fun k => (dq k).2), (fun k => if k = 0 then a0 else if k = 1 then a1 else if k = 2 then a2 else if k = 3 then a3 else if k = 4 then a4 else a5), tS, adK, adV, fv)
  have hfix : zFix G s := by
    refine ⟨⟨fun k q hq => hdq k q hq, fun k q hq => ?_⟩, hX, ⟨hbl, Nat.le_refl _⟩, hZS, hTS, hZC, hZf, hfv, hST, fun i hi => ?_, fun w hw => ?_, va_AO.of o4, va_AO.of o5⟩
    · match k, hq with
      | 0, hq => cases hq; exact ⟨A0, B0⟩
      | 1, hq => cases hq; exact ⟨A1, B1⟩
      | 2, hq => cases hq; exact ⟨A2, B2⟩
      | 3, hq => cases hq; exact ⟨A3, B3⟩
      | 4, hq => cases hq; exact ⟨A4, B4⟩
      | 5, hq => cases hq; exact ⟨A5, B5⟩
      | k + 6, hq => simp [zTys] at hq
    · refine vk_R.of (A := #[Value.ref b]) ?_ (hev i hi)
      match i, hi with
      | 0, _ => exact zl_in hts 2086 (.stringRef "SumWalker$Reader" 132 "row") (by decide +kernel)
      | 1, _ => exact zl_in hts 2138 (.stringRef "SumWalker$Reader" 138 "bound") (by decide +kernel)
      | 2, _ => exact zl_in hts 2139 (.stringRef "SumWalker$Reader" 139 "steps") (by decide +kernel)
      | 3, _ => exact zl_in hts 2140 (.stringRef "SumWalker$Reader" 140 "law") (by decide +kernel)
      | 4, _ => exact zl_in hts 2152 (.stringRef "SumWalker$Reader" 141 "plain") (by decide +kernel)
      | 5, _ => exact zl_in hts 2153 (.stringRef "SumWalker$Reader" 143 "unitary") (by decide +kernel)
      | 6, _ => exact zl_in hts 2154 (.stringRef "SumWalker$Reader" 145 "reduced") (by decide +kernel)
      | 7, _ => exact zl_in hts 2155 (.stringRef "SumWalker$Reader" 147 "bare") (by decide +kernel)
      | n + 8, h => omega
    · simp only [zNw, List.mem_cons, List.not_mem_nil, or_false] at hw
      rcases hw with rfl | rfl | rfl | rfl
      · exact va_Nw.of rfl (zl_in hts 1048 _ (by decide +kernel))
      · exact va_Nw.of rfl (zl_in hts 1093 _ (by decide +kernel))
      · exact va_Nw.of rfl (zl_in hts 1158 _ (by decide +kernel))
      · exact va_Nw.of rfl (zl_in hts 1187 _ (by decide +kernel))
  obtain ⟨n, S', hex, hcl, hsl⟩ := hrun
  have hgb : gf G = .null ∨ ∃ t, gf G = .ref t := hfv
  have hl := lv_entry ([.ref b]) (n := 4) (Nat.le_of_ble_eq_true rfl)
  rw [lg_entry_eq]
  generalize (lg_sl ([.ref b]) ++ List.replicate (4 - (lg_sl ([.ref b])).length) Slot.unset).toArray = lm at hl ⊢
  have hat : zAt G 0 s lm s.heap [] [zR 0, zJ, zJ, zJ] [] (L, [], zH0 xs) := by
    refine ⟨⟨rfl, fun k q h => by simp [zws] at h, zInv0 (G := G) hL⟩, va_S.rf, lv_mono hl ?_, rfl, ?_, fun v hv => by cases hv⟩
    · intro q hq
      have : zloc G 0 [zR 0, zJ, zJ, zJ] = [(0, .ref b)] := rfl
      rw [this] at hq
      exact hq
    · intro v hv
      simp only [List.mem_cons, List.not_mem_nil, or_false] at hv
      rcases hv with rfl | rfl | rfl | rfl
      · exact zwfR 0
      · exact zwfJ
      · exact zwfJ
      · exact zwfJ
  have cx : zCtx G 0 p s m #[Value.ref b] meth c := ⟨hx, hb, hml, hown, htz, hfix, fun q => absurd q (by decide)⟩
  have K := ex_walk z_hall G n 2000 0 0 [zR 0, zJ, zJ, zJ] [] (L, [], zH0 xs) (zI 1) S' zk_law hex (p := p) (l := l) (e := e) (R := room_1) (s := s) (m := m) (args := #[Value.ref b]) (below := below) (meth := meth) (c := c) (H := s.heap) (locs := []) (Q := lw_Z below #[Value.ref b] s) (lm := lm) 0 0 600000 7302250 cx rfl rfl (Nat.le_of_ble_eq_true rfl) (Nat.le_of_ble_eq_true rfl) hat (Nat.zero_le _) (Nat.zero_le _) hcl hsl ?_
  · exact K
  · intro pc a ls st lm' H' locs' hok hd hz hat'
    have ha4 : a = 4 := by
      have hrt : zrt 0 = some .boolean := rfl
      unfold zret_ok at hok
      rw [hrt] at hok
      split at hok
      · cases hok
      · cases hok
      · cases hok
      · cases hok
      · rfl
      · cases hok
      · cases hok
      · cases hok
    subst ha4
    have hst : st = [(0, 1)] := by
      unfold zret at hz
      split at hz
      · cases hz
      · rename_i h; cases h
      · rename_i h; cases h
      · rename_i h; cases h
      · rename_i x
        split at hz
        · cases hz; rfl
        · cases hz
      · rename_i h; cases h
      · rename_i h; cases h
      · cases hz
    subst hst
    refine va_forget (fun q hq => hat'.2.1.2.2 q hq) ?_
    refine W.widen (k := 600000) (n := 7302250) (by omega) (by omega) ?_
    exact lw_ret hx hb hr hlocks hd
