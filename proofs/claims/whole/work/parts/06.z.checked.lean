/-- the entries of a method are so -/
def TabOK (p : Nat × List (Nat × Instr × Nat × List Nat)) : Prop := ∃ e, mi p.1 = some e ∧ p.2.all (chkE e.1 e.2.1 e.2.2.2.1 e.2.2.2.2.1 e.2.2.2.2.2.1 p.1) = true
set_option maxRecDepth 100000 in
theorem LT_ok : ∀ p ∈ LT, TabOK p :=
  List.forall_mem_cons.mpr ⟨⟨_, cm0, ck0⟩, List.forall_mem_cons.mpr ⟨⟨_, cm1, ck1⟩, List.forall_mem_cons.mpr ⟨⟨_, cm2, ck2⟩, List.forall_mem_cons.mpr ⟨⟨_, cm3, ck3⟩, List.forall_mem_cons.mpr ⟨⟨_, cm4, ck4⟩, List.forall_mem_cons.mpr ⟨⟨_, cm5, ck5⟩, List.forall_mem_cons.mpr ⟨⟨_, cm6, ck6⟩, List.forall_mem_cons.mpr ⟨⟨_, cm7, ck7⟩, List.forall_mem_cons.mpr ⟨⟨_, cm8, ck8⟩, List.forall_mem_cons.mpr ⟨⟨_, cm9, ck9⟩, List.forall_mem_cons.mpr ⟨⟨_, cm10, ck10⟩, List.forall_mem_cons.mpr ⟨⟨_, cm11, ck11⟩, List.forall_mem_cons.mpr ⟨⟨_, cm12, ck12⟩, List.forall_mem_cons.mpr ⟨⟨_, cm13, ck13⟩, List.forall_mem_cons.mpr ⟨⟨_, cm14, ck14⟩, List.forall_mem_cons.mpr ⟨⟨_, cm15, ck15⟩, List.forall_mem_cons.mpr ⟨⟨_, cm16, ck16⟩, List.forall_mem_cons.mpr ⟨⟨_, cm17, ck17⟩, List.forall_mem_cons.mpr ⟨⟨_, cm18, ck18⟩, List.forall_mem_cons.mpr ⟨⟨_, cm19, ck19⟩, List.forall_mem_cons.mpr ⟨⟨_, cm20, ck20⟩, List.forall_mem_cons.mpr ⟨⟨_, cm21, ck21⟩, List.forall_mem_cons.mpr ⟨⟨_, cm22, ck22⟩, List.forall_mem_cons.mpr ⟨⟨_, cm23, ck23⟩, List.forall_mem_cons.mpr ⟨⟨_, cm24, ck24⟩, List.forall_mem_cons.mpr ⟨⟨_, cm25, ck25⟩, List.forall_mem_cons.mpr ⟨⟨_, cm26, ck26⟩, List.forall_mem_cons.mpr ⟨⟨_, cm27, ck27⟩, List.forall_mem_cons.mpr ⟨⟨_, cm28, ck28⟩, List.forall_mem_cons.mpr ⟨⟨_, cm29, ck29⟩, List.forall_mem_cons.mpr ⟨⟨_, cm30, ck30⟩, List.forall_mem_cons.mpr ⟨⟨_, cm31, ck31⟩, List.forall_mem_cons.mpr ⟨⟨_, cm32, ck32⟩, List.forall_mem_cons.mpr ⟨⟨_, cm33, ck33⟩, List.forall_mem_cons.mpr ⟨⟨_, cm34, ck34⟩, List.forall_mem_cons.mpr ⟨⟨_, cm35, ck35⟩, List.forall_mem_cons.mpr ⟨⟨_, cm36, ck36⟩, List.forall_mem_cons.mpr ⟨⟨_, cm37, ck37⟩, List.forall_mem_cons.mpr ⟨⟨_, cm38, ck38⟩, List.forall_mem_cons.mpr ⟨⟨_, cm39, ck39⟩, List.forall_mem_cons.mpr ⟨⟨_, cm40, ck40⟩, List.forall_mem_cons.mpr ⟨⟨_, cm41, ck41⟩, List.forall_mem_cons.mpr ⟨⟨_, cm42, ck42⟩, List.forall_mem_cons.mpr ⟨⟨_, cm43, ck43⟩, List.forall_mem_cons.mpr ⟨⟨_, cm44, ck44⟩, List.forall_mem_cons.mpr ⟨⟨_, cm45, ck45⟩, List.forall_mem_cons.mpr ⟨⟨_, cm46, ck46⟩, List.forall_mem_cons.mpr ⟨⟨_, cm47, ck47⟩, List.forall_mem_cons.mpr ⟨⟨_, cm48, ck48⟩, List.forall_mem_cons.mpr ⟨⟨_, cm49, ck49⟩, List.forall_mem_cons.mpr ⟨⟨_, cm50, ck50⟩, List.forall_mem_cons.mpr ⟨⟨_, cm51, ck51⟩, List.forall_mem_cons.mpr ⟨⟨_, cm52, ck52⟩, List.forall_mem_cons.mpr ⟨⟨_, cm53, ck53⟩, List.forall_mem_cons.mpr ⟨⟨_, cm54, ck54⟩, List.forall_mem_cons.mpr ⟨⟨_, cm55, ck55⟩, List.forall_mem_cons.mpr ⟨⟨_, cm56, ck56⟩, List.forall_mem_cons.mpr ⟨⟨_, cm57, ck57⟩, List.forall_mem_cons.mpr ⟨⟨_, cm58, ck58⟩, List.forall_mem_cons.mpr ⟨⟨_, cm59, ck59⟩, List.forall_mem_cons.mpr ⟨⟨_, cm60, ck60⟩, List.forall_mem_cons.mpr ⟨⟨_, cm61, ck61⟩, List.forall_mem_cons.mpr ⟨⟨_, cm62, ck62⟩, List.forall_mem_cons.mpr ⟨⟨_, cm63, ck63⟩, List.forall_mem_cons.mpr ⟨⟨_, cm64, ck64⟩, List.forall_mem_cons.mpr ⟨⟨_, cm65, ck65⟩, List.forall_mem_cons.mpr ⟨⟨_, cm66, ck66⟩, List.forall_mem_cons.mpr ⟨⟨_, cm67, ck67⟩, List.forall_mem_cons.mpr ⟨⟨_, cm68, ck68⟩, List.forall_mem_cons.mpr ⟨⟨_, cm69, ck69⟩, List.forall_mem_cons.mpr ⟨⟨_, cm70, ck70⟩, List.forall_mem_cons.mpr ⟨⟨_, cm71, ck71⟩, List.forall_mem_cons.mpr ⟨⟨_, cm72, ck72⟩, List.forall_mem_cons.mpr ⟨⟨_, cm73, ck73⟩, List.forall_mem_cons.mpr ⟨⟨_, cm74, ck74⟩, List.forall_mem_cons.mpr ⟨⟨_, cm75, ck75⟩, List.forall_mem_cons.mpr ⟨⟨_, cm76, ck76⟩, List.forall_mem_cons.mpr ⟨⟨_, cm77, ck77⟩, List.forall_mem_cons.mpr ⟨⟨_, cm78, ck78⟩, List.forall_mem_cons.mpr ⟨⟨_, cm79, ck79⟩, List.forall_mem_cons.mpr ⟨⟨_, cm80, ck80⟩, List.forall_mem_cons.mpr ⟨⟨_, cm81, ck81⟩, List.forall_mem_cons.mpr ⟨⟨_, cm82, ck82⟩, List.forall_mem_cons.mpr ⟨⟨_, cm83, ck83⟩, List.forall_mem_cons.mpr ⟨⟨_, cm84, ck84⟩, List.forall_mem_cons.mpr ⟨⟨_, cm85, ck85⟩, List.forall_mem_cons.mpr ⟨⟨_, cm86, ck86⟩, List.forall_mem_cons.mpr ⟨⟨_, cm87, ck87⟩, List.forall_mem_cons.mpr ⟨⟨_, cm88, ck88⟩, List.forall_mem_cons.mpr ⟨⟨_, cm89, ck89⟩, List.forall_mem_cons.mpr ⟨⟨_, cm90, ck90⟩, List.forall_mem_cons.mpr ⟨⟨_, cm91, ck91⟩, List.forall_mem_cons.mpr ⟨⟨_, cm92, ck92⟩, List.forall_mem_cons.mpr ⟨⟨_, cm93, ck93⟩, List.forall_mem_cons.mpr ⟨⟨_, cm94, ck94⟩, List.forall_mem_cons.mpr ⟨⟨_, cm95, ck95⟩, List.forall_mem_cons.mpr ⟨⟨_, cm96, ck96⟩, List.forall_mem_cons.mpr ⟨⟨_, cm97, ck97⟩, List.forall_mem_cons.mpr ⟨⟨_, cm98, ck98⟩, List.forall_mem_cons.mpr ⟨⟨_, cm99, ck99⟩, List.forall_mem_cons.mpr ⟨⟨_, cm101, ck101⟩, List.forall_mem_cons.mpr ⟨⟨_, cm102, ck102⟩, List.forall_mem_cons.mpr ⟨⟨_, cm103, ck103⟩, List.forall_mem_cons.mpr ⟨⟨_, cm104, ck104⟩, List.forall_mem_cons.mpr ⟨⟨_, cm105, ck105⟩, List.forall_mem_cons.mpr ⟨⟨_, cm106, ck106⟩, List.forall_mem_cons.mpr ⟨⟨_, cm107, ck107⟩, List.forall_mem_cons.mpr ⟨⟨_, cm108, ck108⟩, List.forall_mem_cons.mpr ⟨⟨_, cm109, ck109⟩, List.forall_mem_cons.mpr ⟨⟨_, cm110, ck110⟩, List.forall_mem_cons.mpr ⟨⟨_, cm111, ck111⟩, List.forall_mem_cons.mpr ⟨⟨_, cm112, ck112⟩, List.forall_mem_cons.mpr ⟨⟨_, cm113, ck113⟩, List.forall_mem_cons.mpr ⟨⟨_, cm114, ck114⟩, List.forall_mem_cons.mpr ⟨⟨_, cm115, ck115⟩, List.forall_mem_cons.mpr ⟨⟨_, cm116, ck116⟩, List.forall_mem_cons.mpr ⟨⟨_, cm117, ck117⟩, List.forall_mem_cons.mpr ⟨⟨_, cm118, ck118⟩, List.forall_mem_cons.mpr ⟨⟨_, cm119, ck119⟩, List.forall_mem_cons.mpr ⟨⟨_, cm120, ck120⟩, List.forall_mem_cons.mpr ⟨⟨_, cm121, ck121⟩, List.forall_mem_cons.mpr ⟨⟨_, cm122, ck122⟩, List.forall_mem_cons.mpr ⟨⟨_, cm123, ck123⟩, List.forall_mem_cons.mpr ⟨⟨_, cm124, ck124⟩, List.forall_mem_cons.mpr ⟨⟨_, cm125, ck125⟩, List.forall_mem_cons.mpr ⟨⟨_, cm126, ck126⟩, List.forall_mem_cons.mpr ⟨⟨_, cm127, ck127⟩, List.forall_mem_cons.mpr ⟨⟨_, cm128, ck128⟩, List.forall_mem_cons.mpr ⟨⟨_, cm129, ck129⟩, List.forall_mem_cons.mpr ⟨⟨_, cm130, ck130⟩, List.forall_mem_cons.mpr ⟨⟨_, cm131, ck131⟩, List.forall_mem_cons.mpr ⟨⟨_, cm132, ck132⟩, List.forall_mem_cons.mpr ⟨⟨_, cm133, ck133⟩, List.forall_mem_cons.mpr ⟨⟨_, cm134, ck134⟩, List.forall_mem_cons.mpr ⟨⟨_, cm135, ck135⟩, List.forall_mem_cons.mpr ⟨⟨_, cm136, ck136⟩, List.forall_mem_cons.mpr ⟨⟨_, cm137, ck137⟩, List.forall_mem_cons.mpr ⟨⟨_, cm138, ck138⟩, List.forall_mem_cons.mpr ⟨⟨_, cm139, ck139⟩, List.forall_mem_cons.mpr ⟨⟨_, cm140, ck140⟩, List.forall_mem_cons.mpr ⟨⟨_, cm141, ck141⟩, List.forall_mem_cons.mpr ⟨⟨_, cm142, ck142⟩, List.forall_mem_cons.mpr ⟨⟨_, cm143, ck143⟩, List.forall_mem_cons.mpr ⟨⟨_, cm144, ck144⟩, List.forall_mem_cons.mpr ⟨⟨_, cm145, ck145⟩, List.forall_mem_cons.mpr ⟨⟨_, cm146, ck146⟩, List.forall_mem_cons.mpr ⟨⟨_, cm147, ck147⟩, List.forall_mem_cons.mpr ⟨⟨_, cm148, ck148⟩, List.forall_mem_cons.mpr ⟨⟨_, cm149, ck149⟩, List.forall_mem_cons.mpr ⟨⟨_, cm150, ck150⟩, List.forall_mem_cons.mpr ⟨⟨_, cm151, ck151⟩, List.forall_mem_cons.mpr ⟨⟨_, cm152, ck152⟩, List.forall_mem_cons.mpr ⟨⟨_, cm153, ck153⟩, List.forall_mem_cons.mpr ⟨⟨_, cm154, ck154⟩, List.forall_mem_cons.mpr ⟨⟨_, cm155, ck155⟩, List.forall_mem_cons.mpr ⟨⟨_, cm156, ck156⟩, List.forall_mem_cons.mpr ⟨⟨_, cm157, ck157⟩, List.forall_mem_cons.mpr ⟨⟨_, cm158, ck158⟩, List.forall_mem_cons.mpr ⟨⟨_, cm159, ck159⟩, List.forall_mem_cons.mpr ⟨⟨_, cm160, ck160⟩, List.forall_mem_cons.mpr ⟨⟨_, cm161, ck161⟩, List.forall_mem_cons.mpr ⟨⟨_, cm162, ck162⟩, List.forall_mem_cons.mpr ⟨⟨_, cm163, ck163⟩, List.forall_mem_cons.mpr ⟨⟨_, cm164, ck164⟩, List.forall_mem_cons.mpr ⟨⟨_, cm165, ck165⟩, List.forall_mem_cons.mpr ⟨⟨_, cm166, ck166⟩, List.forall_mem_cons.mpr ⟨⟨_, cm167, ck167⟩, List.forall_mem_cons.mpr ⟨⟨_, cm168, ck168⟩, List.forall_mem_cons.mpr ⟨⟨_, cm169, ck169⟩, List.forall_mem_cons.mpr ⟨⟨_, cm170, ck170⟩, List.forall_mem_cons.mpr ⟨⟨_, cm171, ck171⟩, List.forall_mem_cons.mpr ⟨⟨_, cm172, ck172⟩, List.forall_mem_cons.mpr ⟨⟨_, cm173, ck173⟩, List.forall_mem_cons.mpr ⟨⟨_, cm174, ck174⟩, List.forall_mem_cons.mpr ⟨⟨_, cm175, ck175⟩, List.forall_mem_cons.mpr ⟨⟨_, cm176, ck176⟩, List.forall_mem_cons.mpr ⟨⟨_, cm177, ck177⟩, List.forall_mem_cons.mpr ⟨⟨_, cm178, ck178⟩, List.forall_mem_cons.mpr ⟨⟨_, cm179, ck179⟩, List.forall_mem_cons.mpr ⟨⟨_, cm180, ck180⟩, List.forall_mem_cons.mpr ⟨⟨_, cm181, ck181⟩, List.forall_mem_cons.mpr ⟨⟨_, cm182, ck182⟩, List.forall_mem_cons.mpr ⟨⟨_, cm183, ck183⟩, List.forall_mem_cons.mpr ⟨⟨_, cm184, ck184⟩, List.forall_mem_cons.mpr ⟨⟨_, cm185, ck185⟩, List.forall_mem_cons.mpr ⟨⟨_, cm186, ck186⟩, List.forall_mem_cons.mpr ⟨⟨_, cm187, ck187⟩, List.forall_mem_cons.mpr ⟨⟨_, cm188, ck188⟩, List.forall_mem_cons.mpr ⟨⟨_, cm189, ck189⟩, List.forall_mem_cons.mpr ⟨⟨_, cm190, ck190⟩, List.forall_mem_cons.mpr ⟨⟨_, cm191, ck191⟩, List.forall_mem_cons.mpr ⟨⟨_, cm192, ck192⟩, List.forall_mem_cons.mpr ⟨⟨_, cm193, ck193⟩, List.forall_mem_cons.mpr ⟨⟨_, cm194, ck194⟩, List.forall_mem_cons.mpr ⟨⟨_, cm195, ck195⟩, List.forall_mem_cons.mpr ⟨⟨_, cm196, ck196⟩, List.forall_mem_cons.mpr ⟨⟨_, cm197, ck197⟩, List.forall_mem_cons.mpr ⟨⟨_, cm198, ck198⟩, List.forall_mem_cons.mpr ⟨⟨_, cm199, ck199⟩, List.forall_mem_cons.mpr ⟨⟨_, cm200, ck200⟩, List.forall_mem_cons.mpr ⟨⟨_, cm201, ck201⟩, List.forall_mem_cons.mpr ⟨⟨_, cm202, ck202⟩, List.forall_mem_cons.mpr ⟨⟨_, cm203, ck203⟩, List.forall_mem_cons.mpr ⟨⟨_, cm204, ck204⟩, List.forall_mem_cons.mpr ⟨⟨_, cm205, ck205⟩, List.forall_mem_cons.mpr ⟨⟨_, cm206, ck206⟩, List.forall_mem_cons.mpr ⟨⟨_, cm207, ck207⟩, List.forall_mem_cons.mpr ⟨⟨_, cm208, ck208⟩, List.forall_mem_cons.mpr ⟨⟨_, cm209, ck209⟩, List.forall_mem_cons.mpr ⟨⟨_, cm210, ck210⟩, List.forall_mem_cons.mpr ⟨⟨_, cm211, ck211⟩, List.forall_mem_cons.mpr ⟨⟨_, cm212, ck212⟩, List.forall_mem_cons.mpr ⟨⟨_, cm213, ck213⟩, List.forall_mem_cons.mpr ⟨⟨_, cm214, ck214⟩, List.forall_mem_cons.mpr ⟨⟨_, cm215, ck215⟩, List.forall_mem_cons.mpr ⟨⟨_, cm216, ck216⟩, List.forall_mem_cons.mpr ⟨⟨_, cm217, ck217⟩, List.forall_mem_cons.mpr ⟨⟨_, cm218, ck218⟩, List.forall_mem_cons.mpr ⟨⟨_, cm219, ck219⟩, fun _ h => absurd h List.not_mem_nil⟩⟩⟩⟩⟩⟩⟩⟩⟩⟩⟩⟩⟩⟩⟩⟩⟩⟩⟩⟩⟩⟩⟩⟩⟩⟩⟩⟩⟩⟩⟩⟩⟩⟩⟩⟩⟩⟩⟩⟩⟩⟩⟩⟩⟩⟩⟩⟩⟩⟩⟩⟩⟩⟩⟩⟩⟩⟩⟩⟩⟩⟩⟩⟩⟩⟩⟩⟩⟩⟩⟩⟩⟩⟩⟩⟩⟩⟩⟩⟩⟩⟩⟩⟩⟩⟩⟩⟩⟩⟩⟩⟩⟩⟩⟩⟩⟩⟩⟩⟩⟩⟩⟩⟩⟩⟩⟩⟩⟩⟩⟩⟩⟩⟩⟩⟩⟩⟩⟩⟩⟩⟩⟩⟩⟩⟩⟩⟩⟩⟩⟩⟩⟩⟩⟩⟩⟩⟩⟩⟩⟩⟩⟩⟩⟩⟩⟩⟩⟩⟩⟩⟩⟩⟩⟩⟩⟩⟩⟩⟩⟩⟩⟩⟩⟩⟩⟩⟩⟩⟩⟩⟩⟩⟩⟩⟩⟩⟩⟩⟩⟩⟩⟩⟩⟩⟩⟩⟩⟩⟩⟩⟩⟩⟩⟩⟩⟩⟩⟩⟩⟩⟩⟩⟩⟩⟩⟩⟩⟩⟩⟩⟩⟩⟩⟩⟩⟩⟩⟩
set_option maxRecDepth 100000 in
theorem MI_ok0 : MI_0.all okM = true := by decide +kernel
set_option maxRecDepth 100000 in
theorem MI_ok1 : MI_1.all okM = true := by decide +kernel
set_option maxRecDepth 100000 in
theorem MI_ok2 : MI_2.all okM = true := by decide +kernel
set_option maxRecDepth 100000 in
theorem MI_ok3 : MI_3.all okM = true := by decide +kernel
set_option maxRecDepth 100000 in
theorem MI_ok4 : MI_4.all okM = true := by decide +kernel
set_option maxRecDepth 100000 in
theorem MI_ok5 : MI_5.all okM = true := by decide +kernel
set_option maxRecDepth 100000 in
theorem MI_ok6 : MI_6.all okM = true := by decide +kernel
set_option maxRecDepth 100000 in
theorem MI_ok7 : MI_7.all okM = true := by decide +kernel
set_option maxRecDepth 100000 in
theorem MI_ok8 : MI_8.all okM = true := by decide +kernel
set_option maxRecDepth 100000 in
theorem MI_ok9 : MI_9.all okM = true := by decide +kernel
set_option maxRecDepth 100000 in
theorem MI_ok10 : MI_10.all okM = true := by decide +kernel
set_option maxRecDepth 100000 in
theorem MI_ok11 : MI_11.all okM = true := by decide +kernel
set_option maxRecDepth 100000 in
theorem MI_ok12 : MI_12.all okM = true := by decide +kernel
set_option maxRecDepth 100000 in
theorem MI_ok13 : MI_13.all okM = true := by decide +kernel
set_option maxRecDepth 100000 in
theorem MI_ok14 : MI_14.all okM = true := by decide +kernel
set_option maxRecDepth 100000 in
theorem MI_ok15 : MI_15.all okM = true := by decide +kernel
set_option maxRecDepth 100000 in
theorem MI_ok16 : MI_16.all okM = true := by decide +kernel
set_option maxRecDepth 100000 in
theorem MI_ok17 : MI_17.all okM = true := by decide +kernel
set_option maxRecDepth 100000 in
theorem MI_ok18 : MI_18.all okM = true := by decide +kernel
set_option maxRecDepth 100000 in
theorem MI_ok19 : MI_19.all okM = true := by decide +kernel
set_option maxRecDepth 100000 in
theorem MI_ok20 : MI_20.all okM = true := by decide +kernel
set_option maxRecDepth 100000 in
theorem MI_ok21 : MI_21.all okM = true := by decide +kernel
set_option maxRecDepth 100000 in
theorem MI_ok22 : MI_22.all okM = true := by decide +kernel
set_option maxRecDepth 100000 in
theorem MI_ok23 : MI_23.all okM = true := by decide +kernel
set_option maxRecDepth 100000 in
theorem MI_ok24 : MI_24.all okM = true := by decide +kernel
set_option maxRecDepth 100000 in
theorem MI_ok25 : MI_25.all okM = true := by decide +kernel
set_option maxRecDepth 100000 in
theorem MI_ok26 : MI_26.all okM = true := by decide +kernel
set_option maxRecDepth 100000 in
theorem MI_ok27 : MI_27.all okM = true := by decide +kernel
theorem MI_ok : ∀ e ∈ MI, okM e = true := by
  have h : MI.all okM = true := by
    unfold MI
    simp only [List.all_append, MI_ok0, MI_ok1, MI_ok2, MI_ok3, MI_ok4, MI_ok5, MI_ok6, MI_ok7, MI_ok8, MI_ok9, MI_ok10, MI_ok11, MI_ok12, MI_ok13, MI_ok14, MI_ok15, MI_ok16, MI_ok17, MI_ok18, MI_ok19, MI_ok20, MI_ok21, MI_ok22, MI_ok23, MI_ok24, MI_ok25, MI_ok26, MI_ok27, Bool.and_self]
  exact fun e he => List.all_eq_true.mp h e he
set_option maxRecDepth 100000 in
theorem cw0 : ∀ w ∈ u_ws RX0 TX0 7, w ∈ TB := by
  have h : u_ws RX0 TX0 7 = ([364, 366, 368, 370, 372, 374, 376] : List Nat).filterMap (fun i => lw_tbl[i]?) ∧ (u_ws RX0 TX0 7).all goodWord = true := by decide +kernel
  intro w hw
  refine List.mem_filter.mpr ⟨?_, List.all_eq_true.mp h.2 w hw⟩
  rw [h.1] at hw
  obtain ⟨i, -, hi⟩ := List.mem_filterMap.mp hw
  exact List.mem_of_getElem? hi
set_option maxRecDepth 100000 in
theorem cw1 : ∀ w ∈ u_ws RX1 TX1 7, w ∈ TB := by
  have h : u_ws RX1 TX1 7 = ([503, 505, 507, 509, 511, 513, 515] : List Nat).filterMap (fun i => lw_tbl[i]?) ∧ (u_ws RX1 TX1 7).all goodWord = true := by decide +kernel
  intro w hw
  refine List.mem_filter.mpr ⟨?_, List.all_eq_true.mp h.2 w hw⟩
  rw [h.1] at hw
  obtain ⟨i, -, hi⟩ := List.mem_filterMap.mp hw
  exact List.mem_of_getElem? hi
set_option maxRecDepth 100000 in
theorem cw2 : ∀ w ∈ u_ws RX2 TX2 4, w ∈ TB := by
  have h : u_ws RX2 TX2 4 = ([335, 337, 339, 341] : List Nat).filterMap (fun i => lw_tbl[i]?) ∧ (u_ws RX2 TX2 4).all goodWord = true := by decide +kernel
  intro w hw
  refine List.mem_filter.mpr ⟨?_, List.all_eq_true.mp h.2 w hw⟩
  rw [h.1] at hw
  obtain ⟨i, -, hi⟩ := List.mem_filterMap.mp hw
  exact List.mem_of_getElem? hi
set_option maxRecDepth 100000 in
theorem cw3 : ∀ w ∈ u_ws RX3 TX3 14, w ∈ TB := by
  have h : u_ws RX3 TX3 14 = ([179, 181, 183, 185, 187, 189, 191, 193, 195, 197, 199, 201, 203, 205] : List Nat).filterMap (fun i => lw_tbl[i]?) ∧ (u_ws RX3 TX3 14).all goodWord = true := by decide +kernel
  intro w hw
  refine List.mem_filter.mpr ⟨?_, List.all_eq_true.mp h.2 w hw⟩
  rw [h.1] at hw
  obtain ⟨i, -, hi⟩ := List.mem_filterMap.mp hw
  exact List.mem_of_getElem? hi
set_option maxRecDepth 100000 in
theorem cw4 : ∀ w ∈ u_ws RX4 TX4 8, w ∈ TB := by
  have h : u_ws RX4 TX4 8 = ([535, 537, 539, 541, 543, 545, 547, 549] : List Nat).filterMap (fun i => lw_tbl[i]?) ∧ (u_ws RX4 TX4 8).all goodWord = true := by decide +kernel
  intro w hw
  refine List.mem_filter.mpr ⟨?_, List.all_eq_true.mp h.2 w hw⟩
  rw [h.1] at hw
  obtain ⟨i, -, hi⟩ := List.mem_filterMap.mp hw
  exact List.mem_of_getElem? hi
set_option maxRecDepth 100000 in
theorem cw5 : ∀ w ∈ u_ws RX5 TX5 10, w ∈ TB := by
  have h : u_ws RX5 TX5 10 = ([401, 403, 405, 407, 409, 411, 413, 415, 417, 419] : List Nat).filterMap (fun i => lw_tbl[i]?) ∧ (u_ws RX5 TX5 10).all goodWord = true := by decide +kernel
  intro w hw
  refine List.mem_filter.mpr ⟨?_, List.all_eq_true.mp h.2 w hw⟩
  rw [h.1] at hw
  obtain ⟨i, -, hi⟩ := List.mem_filterMap.mp hw
  exact List.mem_of_getElem? hi
set_option maxRecDepth 100000 in
theorem cw6 : ∀ w ∈ u_ws RX6 TX6 8, w ∈ TB := by
  have h : u_ws RX6 TX6 8 = ([436, 438, 440, 442, 444, 446, 448, 450] : List Nat).filterMap (fun i => lw_tbl[i]?) ∧ (u_ws RX6 TX6 8).all goodWord = true := by decide +kernel
  intro w hw
  refine List.mem_filter.mpr ⟨?_, List.all_eq_true.mp h.2 w hw⟩
  rw [h.1] at hw
  obtain ⟨i, -, hi⟩ := List.mem_filterMap.mp hw
  exact List.mem_of_getElem? hi
set_option maxRecDepth 100000 in
theorem cw7 : ∀ w ∈ u_ws RX7 TX7 5, w ∈ TB := by
  have h : u_ws RX7 TX7 5 = ([314, 316, 318, 320, 322] : List Nat).filterMap (fun i => lw_tbl[i]?) ∧ (u_ws RX7 TX7 5).all goodWord = true := by decide +kernel
  intro w hw
  refine List.mem_filter.mpr ⟨?_, List.all_eq_true.mp h.2 w hw⟩
  rw [h.1] at hw
  obtain ⟨i, -, hi⟩ := List.mem_filterMap.mp hw
  exact List.mem_of_getElem? hi
set_option maxRecDepth 100000 in
theorem cw8 : ∀ w ∈ u_ws RX8 TX8 9, w ∈ TB := by
  have h : u_ws RX8 TX8 9 = ([471, 473, 475, 477, 479, 481, 483, 485, 487] : List Nat).filterMap (fun i => lw_tbl[i]?) ∧ (u_ws RX8 TX8 9).all goodWord = true := by decide +kernel
  intro w hw
  refine List.mem_filter.mpr ⟨?_, List.all_eq_true.mp h.2 w hw⟩
  rw [h.1] at hw
  obtain ⟨i, -, hi⟩ := List.mem_filterMap.mp hw
  exact List.mem_of_getElem? hi
set_option maxRecDepth 100000 in
theorem cw9 : ∀ w ∈ u_ws RX9 TX9 5, w ∈ TB := by
  have h : u_ws RX9 TX9 5 = ([563, 565, 567, 569, 571] : List Nat).filterMap (fun i => lw_tbl[i]?) ∧ (u_ws RX9 TX9 5).all goodWord = true := by decide +kernel
  intro w hw
  refine List.mem_filter.mpr ⟨?_, List.all_eq_true.mp h.2 w hw⟩
  rw [h.1] at hw
  obtain ⟨i, -, hi⟩ := List.mem_filterMap.mp hw
  exact List.mem_of_getElem? hi
set_option maxRecDepth 100000 in
theorem cw10 : ∀ w ∈ u_ws RX10 TX10 7, w ∈ TB := by
  have h : u_ws RX10 TX10 7 = ([290, 292, 294, 296, 298, 300, 302] : List Nat).filterMap (fun i => lw_tbl[i]?) ∧ (u_ws RX10 TX10 7).all goodWord = true := by decide +kernel
  intro w hw
  refine List.mem_filter.mpr ⟨?_, List.all_eq_true.mp h.2 w hw⟩
  rw [h.1] at hw
  obtain ⟨i, -, hi⟩ := List.mem_filterMap.mp hw
  exact List.mem_of_getElem? hi
set_option maxRecDepth 100000 in
theorem cw11 : ∀ w ∈ u_ws RX11 TX11 11, w ∈ TB := by
  have h : u_ws RX11 TX11 11 = ([585, 587, 589, 591, 593, 595, 597, 599, 601, 603, 605] : List Nat).filterMap (fun i => lw_tbl[i]?) ∧ (u_ws RX11 TX11 11).all goodWord = true := by decide +kernel
  intro w hw
  refine List.mem_filter.mpr ⟨?_, List.all_eq_true.mp h.2 w hw⟩
  rw [h.1] at hw
  obtain ⟨i, -, hi⟩ := List.mem_filterMap.mp hw
  exact List.mem_of_getElem? hi
set_option maxRecDepth 100000 in
theorem cw12 : ∀ w ∈ u_ws RX12 TX12 57, w ∈ TB := by
  have h : u_ws RX12 TX12 57 = ([1330, 1332, 1334, 1336, 1338, 1340, 1342, 1344, 1346, 1348, 1350, 1352, 1354, 1356, 1358, 1360, 1362, 1364, 1366, 1368, 1370, 1372, 1374, 1376, 1378, 1380, 1382, 1384, 1386, 1388, 1390, 1392, 1394, 1396, 1398, 1400, 1402, 1404, 1406, 1408, 1410, 1412, 1414, 1416, 1418, 1420, 1422, 1424, 1426, 1428, 1430, 1432, 1434, 1436, 1438, 1440, 1442] : List Nat).filterMap (fun i => lw_tbl[i]?) ∧ (u_ws RX12 TX12 57).all goodWord = true := by decide +kernel
  intro w hw
  refine List.mem_filter.mpr ⟨?_, List.all_eq_true.mp h.2 w hw⟩
  rw [h.1] at hw
  obtain ⟨i, -, hi⟩ := List.mem_filterMap.mp hw
  exact List.mem_of_getElem? hi
def isRT (t : FieldType) : Bool := match t with
  | .object _ => true
  | .array _ => true
  | _ => false
/-- of a class: its words, its types, its names, its kinds -/
def ClsOK (C : String) (T : u_T) (N : Nat) (ty : Nat → FieldType) : Prop := (∀ w ∈ u_ws C T N, w ∈ TB) ∧ (∀ k, k < N → parseFieldDescriptor (T k).2.2.1 = some (ty k)) ∧ (∀ a, a < N → ∀ b, b < N → a ≠ b → (T a).2.1 ≠ (T b).2.1) ∧ (∀ k, k < N → (kdD (T k).2.2.1 = 0 ∧ ty k = .int) ∨ (kdD (T k).2.2.1 = 1 ∧ ty k = .long) ∨ (kdD (T k).2.2.1 = 3 ∧ ty k = .boolean) ∨ (kdD (T k).2.2.1 = 2 ∧ isRT (ty k) = true))
set_option maxRecDepth 100000 in
theorem co0 : ClsOK RX0 TX0 7 tyX0 := ⟨cw0, tyX0_ok, nmX0, by decide +kernel⟩
set_option maxRecDepth 100000 in
theorem co1 : ClsOK RX1 TX1 7 tyX1 := ⟨cw1, tyX1_ok, nmX1, by decide +kernel⟩
set_option maxRecDepth 100000 in
theorem co2 : ClsOK RX2 TX2 4 tyX2 := ⟨cw2, tyX2_ok, nmX2, by decide +kernel⟩
set_option maxRecDepth 100000 in
theorem co3 : ClsOK RX3 TX3 14 tyX3 := ⟨cw3, tyX3_ok, nmX3, by decide +kernel⟩
set_option maxRecDepth 100000 in
theorem co4 : ClsOK RX4 TX4 8 tyX4 := ⟨cw4, tyX4_ok, nmX4, by decide +kernel⟩
set_option maxRecDepth 100000 in
theorem co5 : ClsOK RX5 TX5 10 tyX5 := ⟨cw5, tyX5_ok, nmX5, by decide +kernel⟩
set_option maxRecDepth 100000 in
theorem co6 : ClsOK RX6 TX6 8 tyX6 := ⟨cw6, tyX6_ok, nmX6, by decide +kernel⟩
set_option maxRecDepth 100000 in
theorem co7 : ClsOK RX7 TX7 5 tyX7 := ⟨cw7, tyX7_ok, nmX7, by decide +kernel⟩
set_option maxRecDepth 100000 in
theorem co8 : ClsOK RX8 TX8 9 tyX8 := ⟨cw8, tyX8_ok, nmX8, by decide +kernel⟩
set_option maxRecDepth 100000 in
theorem co9 : ClsOK RX9 TX9 5 tyX9 := ⟨cw9, tyX9_ok, nmX9, by decide +kernel⟩
set_option maxRecDepth 100000 in
theorem co10 : ClsOK RX10 TX10 7 tyX10 := ⟨cw10, tyX10_ok, nmX10, by decide +kernel⟩
set_option maxRecDepth 100000 in
theorem co11 : ClsOK RX11 TX11 11 tyX11 := ⟨cw11, tyX11_ok, nmX11, by decide +kernel⟩
set_option maxRecDepth 100000 in
theorem co12 : ClsOK RX12 TX12 57 tyX12 := ⟨cw12, tyX12_ok, nmX12, by decide +kernel⟩
theorem cls_ok {ci : Nat} {q : vw_C} (h : vwCl[ci]? = some q) : ∃ ty, ClsOK q.1 q.2.1 q.2.2 ty := by
  match ci, h with
  | 0, h => cases h; exact ⟨_, co0⟩
  | 1, h => cases h; exact ⟨_, co1⟩
  | 2, h => cases h; exact ⟨_, co2⟩
  | 3, h => cases h; exact ⟨_, co3⟩
  | 4, h => cases h; exact ⟨_, co4⟩
  | 5, h => cases h; exact ⟨_, co5⟩
  | 6, h => cases h; exact ⟨_, co6⟩
  | 7, h => cases h; exact ⟨_, co7⟩
  | 8, h => cases h; exact ⟨_, co8⟩
  | 9, h => cases h; exact ⟨_, co9⟩
  | 10, h => cases h; exact ⟨_, co10⟩
  | 11, h => cases h; exact ⟨_, co11⟩
  | 12, h => cases h; exact ⟨_, co12⟩
  | n + 13, h => simp [vwCl] at h
