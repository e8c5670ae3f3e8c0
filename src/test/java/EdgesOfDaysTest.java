/** Terms 2, the reasons of Terms 1, and the promises 12 to 17: each boundary a run of its own. */
public final class EdgesOfDaysTest {
    private static final String ROW = Script.ROW;

    /** Lefts at a, for nothing; a to b 9 miles, b to c 1; A at a with an empty purse. */
    private static final String LONG = """
            road(0,1,9,0)=0; road(1,2,1,0)=0; shop(0,1,0)=0; stock(0,0,9)=0; person(0,0,0,0,0)=1
            """;

    private static final Script SCRIPT = new Script();

    private EdgesOfDaysTest() {
    }

    public static void main(String[] args) {
        reasons();
        orderOfReasons();
        judging();
        doing();
        states();
        behind();
        trodden();
        givingOut();
        refusalsOfGivingOut();
        SCRIPT.end();
    }

    private static void reasons() {
        SCRIPT.play("12 why 1: the PERSON is not there, whatever it does", ROW + """
                day Bb; judge(0)=0; judge(1)=1; day C+; judge(1)=1; day D-; judge(1)=1; day A-; judge(1)=NONE; leave(0)=0; judge(1)=1
                """);
        SCRIPT.play("12 why 2: there is no ROAD", ROW + "day Ac; judge(1)=2; day Ad; judge(1)=2; day AbAd; judge(0)=1; judge(1)=2; road(1,3,1,0)=0; judge(1)=NONE; road(1,3,0,0)=1; judge(1)=2");
        SCRIPT.play("12 why 2: of one TOWN to itself, too", ROW + "day Aa; judge(1)=2; day AbAb; judge(0)=1; judge(1)=2");
        SCRIPT.play("12 why 3: a ROAD for those alone who LIMP", ROW + "road(0,1,2,1)=2; day Ab; judge(1)=3; road(0,1,2,0)=2; road(1,2,3,1)=3; day AbAc; judge(0)=1; judge(1)=3; day AbA+Ac; judge(0)=NONE");
        SCRIPT.play("12 why 3: a ROAD for those alone who do not", ROW + "road(1,2,3,2)=3; day AbAc; judge(0)=NONE; day AbA+Ac; judge(0)=2; judge(1)=3; day AbA+A-Ac; judge(0)=NONE");
        SCRIPT.play("12 why 3: as it LIMPS at that STEP, K or more apart", """
                shop(0,1,0)=0; shop(1,2,0)=0; stock(0,0,9)=0; stock(1,0,9)=0; person(0,0,0,0,0)=1; road(0,1,3,0)=0; road(1,2,1,1)=0
                day A+AbA+Ac; judge(0)=NONE; set(1,4)=3; judge(0)=3; judge(1)=3; road(0,1,4,0)=3; judge(0)=NONE; road(1,2,1,2)=1; judge(1)=3; set(1,5)=4; judge(1)=NONE
                """);
        SCRIPT.play("12 why 4: the SHOP sells nothing, whatever its STOCK", ROW + "stock(0,2,9)=0; day A+; judge(1)=4; shop(0,1,0)=0; judge(1)=NONE; shop(0,0,0)=1; judge(1)=4");
        SCRIPT.play("12 why 4: it has none of the SIZE on that side", """
                shop(0,1,0)=0; person(0,0,3,1,9)=1; stock(0,1,9)=0; stock(0,2,9)=0; stock(0,4,9)=0; day A+; judge(1)=4; stock(0,3,1)=0; judge(1)=NONE
                shop(0,2,0)=1; judge(1)=NONE; stock(0,1,0)=9; judge(1)=4
                """);
        SCRIPT.play("12 why 4: SIZES 0 and 4", """
                shop(0,1,0)=0; person(0,0,0,4,9)=1; stock(0,4,1)=0; day A+; judge(1)=4; stock(0,0,1)=0; judge(1)=NONE; stock(0,4,0)=1; judge(1)=NONE
                shop(0,2,0)=1; judge(1)=4; stock(0,4,1)=0; judge(1)=NONE; stock(0,0,0)=1; judge(1)=NONE
                """);
        SCRIPT.play("12 why 4: the last one is bought by another one before", ROW + "person(1,1,2,2,9)=2; day B+AbA+; judge(0)=2; judge(1)=4; stock(1,2,2)=1; judge(0)=NONE");
        SCRIPT.play("12 why 5: it has a shoe on that side", ROW + "stock(1,2,2)=1; day AbA+A+; judge(0)=2; judge(1)=5; day AbA+A-A+; judge(0)=NONE; day AbA+AcA+A+; judge(0)=4; judge(1)=5");
        SCRIPT.play("12 why 6: its PURSE is less than the PRICE, by one; as much will do", ROW + """
                day AbA+; person(0,0,2,2,3)=1; judge(0)=1; judge(1)=6; person(0,0,2,2,4)=1; judge(0)=NONE; behind(0,1)=0
                shop(1,1,20)=1; person(0,0,2,2,19)=1; judge(1)=6; person(0,0,2,2,20)=1; judge(1)=NONE
                shop(1,1,0)=1; person(0,0,2,2,0)=1; judge(1)=NONE; shop(1,1,1)=1; judge(1)=6
                """);
        SCRIPT.play("12 why 6: what it paid before is gone", ROW + "day AbA+AcA+; person(0,0,2,2,8)=1; judge(0)=3; judge(1)=6; person(0,0,2,2,9)=1; judge(0)=NONE");
        SCRIPT.play("12 throwing shoes away can always be, also without any", ROW + "day A-A-; judge(0)=NONE; behind(0,2)=0");
    }

    private static void orderOfReasons() {
        SCRIPT.play("12 why: 1 goes before 2 to 6", "day Bd; judge(1)=1; day Ba; judge(1)=1; road(0,1,1,1)=0; day Bb; judge(1)=1; day B+; judge(1)=1; shop(0,1,20)=0; judge(1)=1; stock(0,0,1)=0; judge(1)=1");
        SCRIPT.play("12 why: 2 goes before 3", "person(0,0,0,0,0)=1; road(0,1,0,1)=0; day Ab; judge(1)=2; road(0,1,1,1)=0; judge(1)=3");
        SCRIPT.play("12 why: 4 goes before 5", ROW + "day AbA+A+; judge(1)=4; stock(1,2,2)=1; judge(1)=5");
        SCRIPT.play("12 why: 4 goes before 6", ROW + "person(0,0,2,2,0)=1; stock(1,2,0)=1; day AbA+; judge(1)=4; stock(1,2,1)=0; judge(1)=6; shop(1,0,4)=1; judge(1)=4");
        SCRIPT.play("12 why: 5 goes before 6", ROW + "stock(1,2,2)=1; person(0,0,2,2,4)=1; day AbA+A+; judge(0)=2; judge(1)=5");
    }

    private static void judging() {
        SCRIPT.play("12 judge: what is 0 or 1", "judge(-1)=OUTSIDE; judge(2)=OUTSIDE; judge(2147483647)=OUTSIDE; judge(-2147483648)=OUTSIDE; judge(0)=NONE; judge(1)=NONE");
        SCRIPT.play("12 judge: NONE, all can be; the empty PAD too", ROW + "judge(0)=NONE; judge(1)=NONE; day AbAa; judge(0)=NONE; judge(1)=NONE");
        SCRIPT.play("12 judge: the first of several STEPS that can not be", ROW + "day AbBbAd; judge(0)=1; judge(1)=1; day AdBb; judge(0)=0; judge(1)=2; day A+Ad; judge(0)=0; judge(1)=4");
        SCRIPT.play("12 judge: the last of 30 STEPS", ROW + "day " + "AbAa".repeat(14) + "AbAd; judge(0)=29; judge(1)=2; done()=NO; day " + "AbAa".repeat(15) + "; judge(0)=NONE");
        SCRIPT.play("12 judge: OUTSIDE goes before NO and STATE", "day A; judge(2)=OUTSIDE; judge(0)=NO; judge(1)=NO; day ?-; judge(-1)=OUTSIDE; judge(0)=STATE; judge(1)=STATE");
        SCRIPT.play("12 judge: NO goes before STATE", "day ?; judge(0)=NO; day ?-A; judge(1)=NO; day ?-?-?-?-; judge(0)=NO; day ?-?-?-; judge(0)=STATE");
        SCRIPT.play("12 judge: some ? is STATE, also behind a STEP that can not be", "day Bb?-; judge(0)=STATE; day ?-Bb; judge(1)=STATE; day Bb; judge(0)=0");
        SCRIPT.play("12 judge: nothing is DONE by it", ROW + "day AbA+Ac; judge(0)=NONE; told(0)=6; state(0,0)=0; state(0,1)=20; told(202)=1; trodden(0,1,2)=0; day AbA+Ad; judge(0)=2; state(0,0)=0; told(202)=1");
        SCRIPT.play("12 A to D and a to f: each letter is who it is, where it is", """
                towns(6)=4; road(0,1,1,0)=0; road(1,2,1,0)=0; road(2,3,1,0)=0; road(3,4,1,0)=0; road(4,5,1,0)=0
                person(0,0,0,0,0)=1; person(1,1,0,0,0)=2; person(2,2,0,0,0)=3; person(3,3,0,0,0)=4
                day DeDfAbBaCb; judge(0)=NONE; done()=5; state(3,0)=5; state(0,0)=1; state(1,0)=0; state(2,0)=1; state(3,6)=2; day DeDdDcDbDa; done()=5; state(3,0)=0; state(3,6)=7
                """);
    }

    private static void doing() {
        SCRIPT.play("13 done: the empty PAD", "done()=0; done()=0; told(0)=0");
        SCRIPT.play("13 done: 1 STEP, 30 STEPS; the PAD is empty then", ROW + "day A-; done()=1; told(0)=0; day " + "AbAa".repeat(15) + "; done()=30; told(0)=0; done()=0; state(0,6)=60; trodden(0,1,2)=120");
        SCRIPT.play("13 done: PURSES, STOCKS, shoes, places are as they are then", ROW + "day AbA+AcA+; done()=4; state(0,0)=2; state(0,1)=11; state(0,2)=3; told(202)=0; told(302)=1; told(301)=0");
        SCRIPT.play("13 done: NO, there is a FAULT; nothing changes", ROW + "day AbA; done()=NO; told(0)=3; state(0,0)=0; day AbAe; done()=NO; told(0)=4; state(0,0)=0; fault()=3");
        SCRIPT.play("13 done: NO, a STEP can not be; the STEPS before it are not DONE either", ROW + "day AbA+Ad; done()=NO; told(0)=6; state(0,0)=0; state(0,1)=20; state(0,2)=0; state(0,6)=0; told(202)=1; trodden(0,1,2)=0");
        SCRIPT.play("13 done: STATE, there is some ?; nothing changes", ROW + "day Ab?-; done()=STATE; told(0)=4; state(0,0)=0");
        SCRIPT.play("13 done: NO goes before STATE, where there is a FAULT", "day ?-A; done()=NO; day ?-Az; done()=NO; day ?-?-?-?-; done()=NO");
        SCRIPT.play("13 done: with some ?, a STEP that can not be is no NO", "day Bb?-; done()=STATE; day ?-Bb; done()=STATE; day Bb; done()=NO");
        SCRIPT.play("13 done: a PURSE may come to 0, a STOCK too", ROW + "person(0,0,2,2,4)=1; day AbA+; done()=2; state(0,1)=0; told(202)=0");
    }

    private static void states() {
        SCRIPT.play("14 state: what is 0 to 6", ROW + "state(0,-1)=OUTSIDE; state(0,7)=OUTSIDE; state(0,2147483647)=OUTSIDE; state(0,-2147483648)=OUTSIDE; state(0,0)=0; state(0,6)=0");
        SCRIPT.play("14 state: who is not there", ROW + "state(1,0)=UNKNOWN; state(3,6)=UNKNOWN; state(-1,0)=UNKNOWN; state(4,0)=UNKNOWN; state(2147483647,0)=UNKNOWN; state(-2147483648,0)=UNKNOWN");
        SCRIPT.play("14 state: UNKNOWN goes before OUTSIDE", ROW + "state(1,7)=UNKNOWN; state(4,-1)=UNKNOWN; state(0,7)=OUTSIDE");
        SCRIPT.play("14 state: 2, no shoes, a left, a right, both", ROW + """
                state(0,2)=0; day AbA+; done()=2; state(0,2)=1; day Ac; done()=1; day A+; done()=1; state(0,2)=3; day A-A+; done()=2; state(0,2)=2; day A-; done()=1; state(0,2)=0
                """);
        SCRIPT.play("14 state: 3 and 4, WEAR begins anew with another shoe; none is 0", ROW + """
                stock(1,2,9)=1; day AbA+AcA+; done()=4; state(0,3)=3; state(0,4)=0; day Ab; done()=1; state(0,3)=6; state(0,4)=3
                day A-; done()=1; state(0,3)=0; state(0,4)=0; day A+; done()=1; state(0,3)=0; day Aa; done()=1; state(0,3)=2; state(0,4)=0
                """);
        SCRIPT.play("14 state: 5, whether it LIMPS, as K is now", ROW + "day AbA+AcA+; done()=4; state(0,5)=1; set(1,4)=3; state(0,5)=0; set(1,3)=4; state(0,5)=1; set(1,1)=3; state(0,5)=1");
        SCRIPT.play("14 state: 6, MILES in all, with shoes and without", ROW + "day AbA+AcA-Ab; done()=5; state(0,6)=8; state(0,3)=0; road(0,1,9,0)=2; state(0,6)=8");
        SCRIPT.play("14 state: of each PERSON its own", "person(0,0,0,0,1)=1; person(1,1,0,0,2)=2; person(2,2,0,0,3)=3; person(3,3,0,0,4)=4; state(0,1)=1; state(1,1)=2; state(2,1)=3; state(3,1)=4; state(0,0)=0; state(3,0)=3");
    }

    private static void behind() {
        SCRIPT.play("15 behind: the empty PAD: as it is", ROW + "behind(0,0)=0; behind(0,1)=20; behind(0,2)=0; behind(0,3)=0; behind(0,4)=0; behind(0,5)=0; behind(0,6)=0");
        SCRIPT.play("15 behind: what is 0 to 6", ROW + "day Ab; behind(0,-1)=OUTSIDE; behind(0,7)=OUTSIDE; behind(0,0)=1; behind(0,6)=2; behind(0,2147483647)=OUTSIDE; behind(0,-2147483648)=OUTSIDE");
        SCRIPT.play("15 behind: who is not there", ROW + "day Ab; behind(1,0)=UNKNOWN; behind(-1,0)=UNKNOWN; behind(4,0)=UNKNOWN; behind(3,0)=UNKNOWN");
        SCRIPT.play("15 behind: UNKNOWN, OUTSIDE, NO, STATE, in this order", ROW + """
                day A; behind(1,7)=UNKNOWN; behind(1,0)=UNKNOWN; behind(0,7)=OUTSIDE; behind(0,0)=NO; day ?-; behind(1,0)=UNKNOWN; behind(0,7)=OUTSIDE; behind(0,0)=STATE
                day ?-A; behind(0,0)=NO; day Ad; behind(1,0)=UNKNOWN; behind(0,-1)=OUTSIDE; behind(0,0)=NO; day Ad?-; behind(0,0)=STATE
                """);
        SCRIPT.play("15 behind: nothing is DONE", ROW + "day AbA+; behind(0,1)=16; behind(0,2)=1; state(0,0)=0; state(0,1)=20; state(0,2)=0; told(0)=4; told(202)=1; trodden(0,1,2)=0; behind(0,0)=1");
        SCRIPT.play("15 behind: of who does nothing, as it is; of 30 STEPS, all", ROW + "person(3,3,0,0,7)=2; day " + "AbAa".repeat(14) + "AbA+; behind(3,0)=3; behind(3,1)=7; behind(3,6)=0; behind(0,0)=1; behind(0,2)=1; behind(0,6)=58");
    }

    private static void trodden() {
        SCRIPT.play("16 trodden: not yet, a ROAD that there is", ROW + "trodden(0,1,0)=0; trodden(0,1,1)=0; trodden(0,1,2)=0");
        SCRIPT.play("16 trodden: there is no ROAD", ROW + "trodden(0,2,0)=STATE; trodden(3,0,2)=STATE; road(0,2,1,0)=0; trodden(2,0,0)=0; road(0,2,0,0)=1; trodden(0,2,0)=STATE");
        SCRIPT.play("16 trodden: both are one, or there is no such TOWN", ROW + "trodden(0,0,0)=UNKNOWN; trodden(3,3,0)=UNKNOWN; trodden(-1,0,0)=UNKNOWN; trodden(0,-1,0)=UNKNOWN; trodden(4,0,0)=UNKNOWN; trodden(0,4,0)=UNKNOWN; trodden(4,4,0)=UNKNOWN");
        SCRIPT.play("16 trodden: which is 0 to 2", ROW + "trodden(0,1,-1)=OUTSIDE; trodden(0,1,3)=OUTSIDE; trodden(0,1,2147483647)=OUTSIDE; trodden(0,1,-2147483648)=OUTSIDE");
        SCRIPT.play("16 trodden: UNKNOWN, OUTSIDE, STATE, in this order", ROW + "trodden(0,0,3)=UNKNOWN; trodden(4,0,-1)=UNKNOWN; trodden(0,3,3)=OUTSIDE; trodden(0,3,-1)=OUTSIDE; trodden(0,3,0)=STATE");
        SCRIPT.play("16 trodden: of each foot without a shoe: both, then one, then none", ROW + """
                day Ab; done()=1; trodden(0,1,0)=0; trodden(0,1,1)=0; trodden(0,1,2)=4; day A+Ac; done()=2; trodden(1,2,0)=3; trodden(1,2,1)=0; trodden(1,2,2)=3
                day A+Ab; done()=2; trodden(2,1,0)=6; trodden(2,1,1)=3; trodden(2,1,2)=3; trodden(0,1,2)=4
                """);
        SCRIPT.play("16 trodden: a right alone", ROW + "person(0,2,2,2,20)=1; day A+Ab; done()=2; trodden(1,2,0)=0; trodden(1,2,1)=3; trodden(1,2,2)=3");
        SCRIPT.play("16 trodden: each walk counts, both ways, of all PEOPLE", ROW + "person(3,1,0,0,0)=2; day AbAaDaDb; done()=4; trodden(0,1,2)=16; trodden(1,0,2)=16; trodden(1,2,2)=0");
        SCRIPT.play("16 trodden: of STEPS that were DONE alone", ROW + "day Ab; judge(0)=NONE; behind(0,0)=1; givesOut(1,0)=NONE; filled(-1)=1; year(14,1,0)=2; trodden(0,1,2)=0; day AbAd; done()=NO; trodden(0,1,2)=0; day ?b; filled(-1)=1; done()=STATE; trodden(0,1,2)=0");
        SCRIPT.play("16 trodden: the first and the last of fifteen ROADS", """
                towns(6)=4; road(0,1,9,0)=0; road(4,5,1,0)=0; person(0,0,0,0,0)=1; person(1,5,0,0,0)=2; day AbBe; done()=2
                trodden(0,1,2)=18; trodden(5,4,2)=2; road(0,1,9,0)=9; trodden(0,1,2)=0; trodden(4,5,2)=2; road(4,5,1,0)=1; trodden(4,5,2)=0
                """);
    }

    private static void givingOut() {
        SCRIPT.play("17 givesOut: WEAR above D, not as much as D", LONG + "day A+AbAa; givesOut(8,0)=1; givesOut(9,0)=2; givesOut(17,0)=2; givesOut(18,0)=NONE; givesOut(18,1)=NONE; givesOut(18,2)=NONE");
        SCRIPT.play("17 givesOut: D 1 is the least", LONG + "road(1,2,1,0)=1; shop(1,1,0)=0; stock(1,0,1)=0; day AbA+Ac; givesOut(1,0)=NONE; givesOut(0,0)=OUTSIDE; day AbA+AcAb; givesOut(1,0)=3; givesOut(1,1)=0; givesOut(1,2)=0");
        SCRIPT.play("17 givesOut: D 99 is the greatest", LONG + """
                day A+AbAaAbAaAbAaAbAaAbAaAb; behind(0,3)=99; givesOut(99,0)=NONE; givesOut(98,0)=11; givesOut(100,0)=OUTSIDE
                say(65)=25; say(99)=26; behind(0,3)=100; givesOut(99,0)=12; givesOut(99,1)=0; givesOut(99,2)=0
                """);
        SCRIPT.play("17 givesOut: nothing on the PAD, nobody there", "givesOut(1,0)=NONE; givesOut(1,1)=NONE; givesOut(99,2)=NONE; person(0,0,0,0,0)=1; givesOut(1,0)=NONE");
        SCRIPT.play("17 givesOut: on bare feet no shoe does", LONG + "day " + "AbAa".repeat(15) + "; behind(0,6)=270; givesOut(1,0)=NONE");
        SCRIPT.play("17 givesOut: going on from now", LONG + "day A+Ab; done()=2; day Ac; givesOut(9,0)=0; givesOut(10,0)=NONE");
        SCRIPT.play("17 givesOut: behind a walk alone, though it is worn before", LONG + "shop(1,2,0)=0; stock(1,0,1)=0; day A+Ab; done()=2; day A+; givesOut(1,0)=NONE; givesOut(8,0)=NONE; day A+Ac; givesOut(8,0)=1; givesOut(8,2)=0; day A-Ac; givesOut(1,0)=NONE");
        SCRIPT.play("17 givesOut: of who walked, though another one's is worn", LONG + "person(3,1,0,0,0)=2; day A+AbDcAc; givesOut(8,0)=1; givesOut(8,1)=0; givesOut(9,0)=3; done()=4; day DbAb; givesOut(1,0)=1; givesOut(1,1)=0; day DbDc; givesOut(1,0)=NONE");
        SCRIPT.play("17 givesOut: who, D too", LONG + "person(3,0,0,0,0)=2; day D+A+AcDb; judge(1)=2; day D+A+DbAb; givesOut(8,0)=2; givesOut(8,1)=3; day A+D+AbAcDb; givesOut(9,0)=3; givesOut(9,1)=0");
        SCRIPT.play("17 givesOut: the side: left alone, right alone", LONG + "day A+Ab; givesOut(8,2)=0; shop(0,2,0)=1; givesOut(8,2)=1");
        SCRIPT.play("17 givesOut: left, if both have", LONG + "day A+; done()=1; shop(0,2,0)=1; day A+Ab; givesOut(8,0)=1; givesOut(8,2)=0; givesOut(9,2)=NONE");
        SCRIPT.play("17 givesOut: right, if the left has as much as D", """
                road(0,1,1,0)=0; road(1,2,9,0)=0; shop(0,2,0)=0; shop(1,1,0)=0; stock(0,0,1)=0; stock(1,0,1)=0; person(0,0,0,0,0)=1
                day A+AbA+Ac; behind(0,3)=9; behind(0,4)=10; givesOut(9,0)=3; givesOut(9,2)=1; givesOut(8,2)=0; givesOut(10,2)=NONE; givesOut(1,0)=3; givesOut(1,2)=0
                """);
        SCRIPT.play("17 givesOut: the last of 30 STEPS", LONG + "road(0,1,3,0)=9; day A-A+" + "AbAa".repeat(14) + "; givesOut(81,0)=29; givesOut(84,0)=NONE; givesOut(80,0)=28; givesOut(83,0)=29");
        SCRIPT.play("17 givesOut: nothing is DONE by it", LONG + "day A+AbAc; givesOut(1,0)=1; state(0,0)=0; told(100)=9; told(0)=6; trodden(0,1,0)=0");
    }

    private static void refusalsOfGivingOut() {
        SCRIPT.play("17 givesOut: D and what", LONG + "day A+Ab; givesOut(0,0)=OUTSIDE; givesOut(-1,0)=OUTSIDE; givesOut(100,0)=OUTSIDE; givesOut(1,-1)=OUTSIDE; givesOut(1,3)=OUTSIDE; givesOut(2147483647,0)=OUTSIDE; givesOut(-2147483648,0)=OUTSIDE; givesOut(1,0)=1; givesOut(1,2)=0");
        SCRIPT.play("17 givesOut: OUTSIDE, NO, STATE, in this order", LONG + """
                day A; givesOut(0,0)=OUTSIDE; givesOut(1,3)=OUTSIDE; givesOut(1,0)=NO; day ?-; givesOut(100,0)=OUTSIDE; givesOut(1,0)=STATE; day ?-A; givesOut(1,0)=NO
                day Ad?-; givesOut(1,0)=STATE; day Ad; givesOut(1,3)=OUTSIDE; givesOut(1,0)=NO
                """);
        SCRIPT.play("17 givesOut: NO, a STEP can not be, also behind the one where it would", LONG + "day A+AbAd; givesOut(1,0)=NO; day A+AbAc; givesOut(1,0)=1");
    }
}
