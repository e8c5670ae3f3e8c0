/** Terms 3 and 4 and the promises 18 to 26: each boundary a run of its own. */
public final class EdgesOfWaysTest {
    private static final String ROW = Script.ROW;

    /** Six towns in a row, 9 miles from each to the next; D at a, its home. */
    private static final String SIX = """
            towns(6)=4; road(0,1,9,0)=0; road(1,2,9,0)=0; road(2,3,9,0)=0; road(3,4,9,0)=0; road(4,5,9,0)=0; person(3,0,0,0,0)=1
            """;

    /** Six towns, a road of 1 mile between any two of them. */
    private static final String ALL_ROADS = """
            towns(6)=4; road(0,1,1,0)=0; road(0,2,1,1)=0; road(0,3,1,2)=0; road(0,4,1,0)=0; road(0,5,1,0)=0; road(1,2,1,0)=0; road(1,3,1,0)=0
            road(1,4,1,0)=0; road(1,5,1,0)=0; road(2,3,1,0)=0; road(2,4,1,0)=0; road(2,5,1,0)=0; road(3,4,1,0)=0; road(3,5,1,0)=0; road(4,5,1,0)=0
            """;

    private static final Script SCRIPT = new Script();

    private EdgesOfWaysTest() {
    }

    public static void main(String[] args) {
        far();
        way();
        firstWay();
        shod();
        shodWithOneShoe();
        shodLimping();
        round();
        together();
        firstTogether();
        parted();
        pairs();
        rests();
        owner();
        SCRIPT.end();
    }

    private static void far() {
        SCRIPT.play("18 far: of a TOWN to itself, with ROADS and without", "far(0,0,0)=0; far(3,3,1)=0; road(0,1,9,1)=0; far(0,0,0)=0; far(1,1,1)=0");
        SCRIPT.play("18 far: NONE, there is no way", "far(0,1,0)=NONE; far(0,3,1)=NONE; road(0,1,1,0)=0; road(2,3,1,0)=0; far(0,2,0)=NONE; far(1,3,1)=NONE; far(3,2,1)=1");
        SCRIPT.play("18 far: for who LIMPS, for who does not", "road(0,1,1,1)=0; road(1,2,1,2)=0; road(0,2,9,0)=0; far(0,1,1)=1; far(0,1,0)=10; far(1,2,0)=1; far(1,2,1)=10; far(0,2,0)=9; far(0,2,1)=9");
        SCRIPT.play("18 far: the longest, over all TOWNS", SIX + "far(0,5,0)=45; far(5,0,1)=45; far(0,4,0)=36; far(1,5,0)=36");
        SCRIPT.play("18 far: round about, if that is less; the ROAD, if it is as long", "road(0,1,3,0)=0; road(0,2,1,0)=0; road(2,1,1,0)=0; far(0,1,0)=2; road(2,1,2,0)=1; far(0,1,0)=3; road(2,1,3,0)=2; far(0,1,0)=3");
        SCRIPT.play("18 far: there is no such TOWN", "far(-1,0,0)=UNKNOWN; far(0,-1,0)=UNKNOWN; far(4,0,0)=UNKNOWN; far(0,4,0)=UNKNOWN; far(4,4,0)=UNKNOWN; far(2147483647,-2147483648,0)=UNKNOWN; far(3,3,0)=0");
        SCRIPT.play("18 far: limps is 0 or 1", "far(0,0,-1)=OUTSIDE; far(0,0,2)=OUTSIDE; far(0,1,2147483647)=OUTSIDE; far(0,1,-2147483648)=OUTSIDE; far(0,0,1)=0");
        SCRIPT.play("18 far: UNKNOWN goes before OUTSIDE", "far(4,0,2)=UNKNOWN; far(0,-1,-1)=UNKNOWN");
    }

    private static void way() {
        SCRIPT.play("19 way: to where it is", ROW + "way(0,0,-1)=0; way(0,0,0)=0; way(0,0,1)=NONE; day Ab; done()=1; way(0,1,-1)=0; way(0,1,0)=1; way(0,1,1)=NONE");
        SCRIPT.play("19 way: the longest, over all TOWNS", SIX + "way(3,5,-1)=45; way(3,5,0)=0; way(3,5,1)=1; way(3,5,2)=2; way(3,5,3)=3; way(3,5,4)=4; way(3,5,5)=5; way(3,5,6)=NONE");
        SCRIPT.play("19 way: NONE, there is no way", ROW + "way(0,3,-1)=NONE; way(0,3,0)=NONE; way(0,3,1)=NONE; road(0,1,2,1)=2; way(0,1,-1)=NONE; way(0,1,0)=NONE");
        SCRIPT.play("19 way: NONE, there is no i-th", ROW + "way(0,1,-2)=NONE; way(0,1,2)=NONE; way(0,1,2147483647)=NONE; way(0,1,-2147483648)=NONE; way(0,1,1)=1; way(0,1,0)=0");
        SCRIPT.play("19 way: from where it is, not from HOME", ROW + "day AbAc; done()=2; way(0,0,-1)=5; way(0,0,0)=2; way(0,0,1)=1; way(0,0,2)=0; way(0,0,3)=NONE");
        SCRIPT.play("19 way: as it LIMPS now", ROW + "road(1,3,1,1)=0; road(2,3,1,0)=0; way(0,3,-1)=6; way(0,3,2)=2; day AbA+; done()=2; way(0,3,-1)=1; way(0,3,1)=3; day A-; done()=1; way(0,3,-1)=4; way(0,3,1)=2");
        SCRIPT.play("19 way: who is not there, which TOWN there is not", ROW + "way(1,0,0)=UNKNOWN; way(-1,0,0)=UNKNOWN; way(4,0,0)=UNKNOWN; way(0,4,0)=UNKNOWN; way(0,-1,-1)=UNKNOWN; way(0,2147483647,0)=UNKNOWN; way(1,4,-2)=UNKNOWN");
        SCRIPT.play("19 way: over a, the first of all TOWNS", "person(0,1,0,0,0)=1; road(1,0,1,0)=0; road(0,2,1,0)=0; road(1,2,9,0)=0; way(0,2,-1)=2; way(0,2,0)=1; way(0,2,1)=0; way(0,2,2)=2; way(0,2,3)=NONE");
        SCRIPT.play("19 way: of each PERSON", "road(0,1,1,0)=0; person(3,1,0,0,0)=1; way(3,0,-1)=1; way(3,0,0)=1; way(3,0,1)=0; way(0,0,0)=UNKNOWN");
    }

    private static void firstWay() {
        SCRIPT.play("19 way: fewer MILES go before fewer ROADS", "towns(6)=4; person(0,0,0,0,0)=1; road(0,5,6,0)=0; road(0,1,1,0)=0; road(1,2,1,0)=0; road(2,3,1,0)=0; road(3,4,1,0)=0; road(4,5,1,0)=0; way(0,5,-1)=5; way(0,5,1)=1; way(0,5,5)=5; way(0,5,6)=NONE");
        SCRIPT.play("19 way: of as many MILES one ROAD goes before five", "towns(6)=4; person(0,0,0,0,0)=1; road(0,5,5,0)=0; road(0,1,1,0)=0; road(1,2,1,0)=0; road(2,3,1,0)=0; road(3,4,1,0)=0; road(4,5,1,0)=0; way(0,5,-1)=5; way(0,5,1)=5; way(0,5,2)=NONE");
        SCRIPT.play("19 way: fewer ROADS go before the first by TOWNS", "towns(6)=4; person(0,0,0,0,0)=1; road(0,1,1,0)=0; road(1,2,1,0)=0; road(2,5,1,0)=0; road(0,4,2,0)=0; road(4,5,1,0)=0; way(0,5,-1)=3; way(0,5,1)=4; way(0,5,2)=5; way(0,5,3)=NONE");
        SCRIPT.play("19 way: of as many ROADS the first by TOWNS, the second TOWN, too", """
                towns(6)=4; person(0,5,0,0,0)=1; road(5,4,1,0)=0; road(5,3,1,0)=0; road(4,0,1,0)=0; road(3,0,1,0)=0; way(0,0,1)=3; road(3,0,2,0)=1; way(0,0,1)=4; road(3,0,1,0)=2
                road(3,0,0,0)=1; road(4,0,0,0)=1; road(3,2,1,0)=0; road(3,1,1,0)=0; road(2,0,1,0)=0; road(1,0,1,0)=0; way(0,0,-1)=3; way(0,0,1)=3; way(0,0,2)=1; way(0,0,3)=0
                """);
    }

    private static void shod() {
        SCRIPT.play("20 shod: what is 0 to 3", ROW + "shod(0,-1)=OUTSIDE; shod(0,4)=OUTSIDE; shod(0,2147483647)=OUTSIDE; shod(0,-2147483648)=OUTSIDE; shod(0,0)=19; shod(0,3)=2");
        SCRIPT.play("20 shod: who is not there; UNKNOWN goes before OUTSIDE", ROW + "shod(1,0)=UNKNOWN; shod(-1,0)=UNKNOWN; shod(4,0)=UNKNOWN; shod(1,4)=UNKNOWN; shod(4,-1)=UNKNOWN");
        SCRIPT.play("20 shod: its PURSE must do, as much will do", ROW + "person(0,0,2,2,9)=1; shod(0,0)=19; person(0,0,2,2,8)=1; shod(0,0)=NONE; shod(0,1)=NONE; shod(0,2)=NONE; shod(0,3)=NONE");
        SCRIPT.play("20 shod: TOLL is not paid by the PURSE", ROW + "set(0,9)=1; person(0,0,2,2,9)=1; shod(0,0)=99; shod(0,1)=10");
        SCRIPT.play("20 shod: PRICES 0 and 20", ROW + "shop(1,1,0)=1; shop(2,2,0)=2; person(0,0,2,2,0)=1; shod(0,0)=10; shop(1,1,20)=1; shop(2,2,20)=2; person(0,0,2,2,40)=1; shod(0,0)=50; person(0,0,2,2,39)=1; shod(0,0)=NONE");
        SCRIPT.play("20 shod: TOLL 0 and 9", ROW + "set(0,0)=1; shod(0,0)=9; shod(0,1)=10; set(0,9)=0; shod(0,0)=99; shod(0,1)=10");
        SCRIPT.play("20 shod: a STOCK of one will do, none will not", ROW + "stock(2,2,1)=2; shod(0,0)=19; stock(2,2,0)=1; shod(0,0)=NONE; stock(2,2,9)=0; stock(1,2,0)=1; shod(0,0)=NONE");
        SCRIPT.play("20 shod: no SHOP sells the other side", ROW + "shop(2,1,5)=2; shod(0,0)=NONE; shop(2,0,5)=1; shod(0,0)=NONE; shop(2,2,5)=0; shod(0,0)=19; shop(1,2,4)=1; shod(0,0)=NONE");
        SCRIPT.play("20 shod: no ROADS: it can not, unless it has both", "person(0,0,0,0,99)=1; shop(0,1,0)=0; shop(1,2,0)=0; stock(0,0,9)=0; stock(1,0,9)=0; shod(0,0)=NONE; shod(0,3)=NONE; day A+; done()=1; shod(0,0)=NONE; shop(0,2,0)=1; day A+; done()=1; shod(0,0)=0; shod(0,1)=0; shod(0,2)=NONE; shod(0,3)=NONE");
        SCRIPT.play("20 shod: it has both, and goes HOME", ROW + "day AbA+AcA+; done()=4; shod(0,0)=5; shod(0,1)=5; shod(0,2)=NONE; shod(0,3)=NONE; set(0,0)=1; shod(0,0)=0; shod(0,1)=5; road(0,1,0,0)=2; shod(0,0)=NONE; shod(0,1)=NONE");
        SCRIPT.play("20 shod: it has one: the second TOWN is NONE", ROW + "day AbA+; done()=2; shod(0,0)=13; shod(0,1)=8; shod(0,2)=2; shod(0,3)=NONE; day A-AcA+; done()=3; stock(1,2,1)=0; shod(0,0)=9; shod(0,1)=5; shod(0,2)=1; shod(0,3)=NONE");
        SCRIPT.play("20 shod: where it is there is a SHOP", ROW + "shop(0,1,6)=0; stock(0,2,1)=0; shod(0,0)=19; shod(0,2)=1; shod(0,3)=2; shop(0,1,4)=1; shod(0,0)=19; shod(0,2)=0; shod(0,3)=2; shop(0,1,3)=1; shod(0,0)=18; shod(0,1)=10; shop(0,2,5)=1; shod(0,0)=13; shod(0,1)=4; shod(0,2)=0; shod(0,3)=1");
        SCRIPT.play("20 shod: the second TOWN is a, the first of all", "shop(1,1,0)=0; shop(0,2,0)=0; stock(0,0,1)=0; stock(1,0,1)=0; road(0,1,1,0)=0; person(0,0,0,0,0)=1; shod(0,0)=2; shod(0,2)=0; shod(0,3)=1; day Ab; done()=1; shod(0,0)=1; shod(0,1)=1; shod(0,2)=1; shod(0,3)=0");
        SCRIPT.play("20 shod: of several the first TOWN, then the second", """
                towns(6)=4; shop(1,1,1)=0; shop(2,1,1)=0; shop(4,2,1)=0; shop(5,2,1)=0; stock(1,0,1)=0; stock(2,0,1)=0; stock(4,0,1)=0; stock(5,0,1)=0; person(0,0,0,0,9)=1
                road(0,1,1,0)=0; road(0,2,1,0)=0; road(0,4,1,0)=0; road(0,5,1,0)=0; shod(0,0)=6; shod(0,2)=1; shod(0,3)=4
                stock(4,0,0)=1; shod(0,2)=1; shod(0,3)=5; stock(1,0,0)=1; shod(0,2)=2; shod(0,3)=5; stock(4,0,1)=0; shod(0,3)=4; shop(4,2,2)=2; shod(0,3)=5; shop(2,1,2)=1; stock(1,0,1)=0; shod(0,2)=1
                """);
        SCRIPT.play("20 shod: less by one goes before the first TOWNS", """
                shop(1,1,3)=0; shop(2,1,2)=0; shop(3,2,1)=0; stock(1,0,1)=0; stock(2,0,1)=0; stock(3,0,1)=0; person(0,0,0,0,9)=1; road(0,1,1,0)=0; road(0,2,1,0)=0; road(0,3,1,0)=0
                shod(0,0)=7; shod(0,2)=2; shod(0,3)=3; road(0,2,2,0)=1; shod(0,0)=8; shod(0,2)=1
                """);
        SCRIPT.play("20 shod: nothing is bought by it", ROW + "shod(0,0)=19; shod(0,0)=19; state(0,2)=0; state(0,1)=20; told(202)=1; state(0,0)=0; trodden(0,1,2)=0");
    }

    private static void shodWithOneShoe() {
        SCRIPT.play("20 shod: with one shoe it LIMPS to the SHOP", "shop(0,1,0)=0; shop(1,2,0)=0; stock(0,0,9)=0; stock(1,0,9)=0; person(0,0,0,0,0)=1; road(0,1,1,0)=0; day A+; done()=1; shod(0,0)=2; road(0,1,1,2)=1; shod(0,0)=NONE; road(0,2,3,0)=0; road(2,1,4,0)=0; shod(0,0)=14; shod(0,1)=14; set(1,8)=3; shod(0,0)=8; set(1,7)=8; shod(0,0)=14");
        SCRIPT.play("20 shod: the WEAR of the left that it has, K or more apart", """
                shop(0,1,0)=0; shop(1,2,0)=0; stock(0,0,9)=0; stock(1,0,9)=0; person(0,0,0,0,0)=1; road(0,3,1,0)=0; day A+AdAa; done()=3; state(0,3)=2
                road(0,1,1,1)=0; shod(0,0)=2; set(1,4)=3; shod(0,0)=NONE; set(1,2)=4; shod(0,0)=2
                """);
        SCRIPT.play("20 shod: the WEAR of the right that it has, K or more apart", """
                shop(0,2,0)=0; shop(1,1,0)=0; stock(0,0,9)=0; stock(1,0,9)=0; person(0,0,0,0,0)=1; road(0,3,1,0)=0; day A+AdAa; done()=3; state(0,4)=2
                road(0,1,1,1)=0; shod(0,0)=2; set(1,4)=3; shod(0,0)=NONE; set(1,2)=4; shod(0,0)=2
                """);
        SCRIPT.play("20 shod: with both it goes HOME as it LIMPS, K or more apart", """
                shop(0,1,0)=0; shop(1,2,0)=0; stock(0,0,9)=0; stock(1,0,9)=0; person(0,0,0,0,0)=1; road(0,1,3,0)=0; day A+AbA+; done()=3; shod(0,0)=3
                road(0,1,3,1)=3; shod(0,0)=3; set(1,4)=3; shod(0,0)=NONE; road(0,1,3,2)=3; shod(0,0)=3; set(1,3)=4; shod(0,0)=NONE
                """);
    }

    private static void shodLimping() {
        SCRIPT.play("20 shod: bare to the first TOWN", "shop(1,1,0)=0; shop(2,2,0)=0; stock(1,0,9)=0; stock(2,0,9)=0; person(0,0,0,0,0)=1; road(0,1,1,2)=0; road(1,2,1,0)=0; road(0,2,1,0)=0; shod(0,0)=3; shod(0,2)=1; road(0,1,1,1)=1; shod(0,0)=4; shod(0,2)=1; shod(0,1)=4; road(0,2,1,1)=1; shod(0,0)=NONE");
        SCRIPT.play("20 shod: LIMPING to the second TOWN", "shop(1,1,0)=0; shop(2,2,0)=0; stock(1,0,9)=0; stock(2,0,9)=0; person(0,0,0,0,0)=1; road(0,1,1,2)=0; road(0,2,1,2)=0; road(1,2,2,1)=0; shod(0,0)=4; road(1,2,2,2)=2; shod(0,0)=NONE; road(1,2,2,0)=2; shod(0,0)=4");
        SCRIPT.play("20 shod: HOME LIMPING, if both are K or more apart; not, if K less one", """
                shop(1,1,0)=0; shop(2,2,0)=0; stock(1,0,9)=0; stock(2,0,9)=0; person(0,0,0,0,0)=1; road(0,1,1,2)=0; road(1,2,3,0)=0; road(0,2,1,1)=0; shod(0,0)=5; shod(0,2)=1; shod(0,3)=2
                road(1,2,2,0)=3; shod(0,0)=6; shod(0,1)=6; set(1,2)=3; shod(0,0)=4; set(1,1)=2; shod(0,0)=4
                """);
    }

    private static void round() {
        SCRIPT.play("21 round: the empty set: HOME again", ROW + "round(0,0,-1)=0; round(0,0,0)=NONE; day Ab; done()=1; round(0,0,-1)=2; round(0,0,0)=NONE; road(0,1,0,0)=2; round(0,0,-1)=NONE");
        SCRIPT.play("21 round: where it is, HOME", ROW + "round(0,1,-1)=0; round(0,1,0)=0; round(0,1,1)=NONE; day Ab; done()=1; round(0,2,-1)=2; round(0,2,0)=1; round(0,1,-1)=2; round(0,1,0)=0; round(0,3,0)=1; round(0,3,1)=0; round(0,3,-1)=2");
        SCRIPT.play("21 round: all of six TOWNS", SIX + "round(3,63,-1)=90; round(3,63,0)=0; round(3,63,1)=1; round(3,63,2)=2; round(3,63,3)=3; round(3,63,4)=4; round(3,63,5)=5; round(3,63,6)=NONE; round(3,32,-1)=90; round(3,32,0)=5; round(3,32,1)=NONE");
        SCRIPT.play("21 round: bits of TOWNS that there are", ROW + "round(0,15,-1)=NONE; round(0,16,-1)=OUTSIDE; round(0,17,-1)=OUTSIDE; round(0,-1,-1)=OUTSIDE; round(0,2147483647,-1)=OUTSIDE; round(0,-2147483648,-1)=OUTSIDE; round(0,7,-1)=10");
        SCRIPT.play("21 round: of two TOWNS 3 is the greatest set", "towns(2)=4; person(0,0,0,0,0)=1; road(0,1,1,0)=0; round(0,3,-1)=2; round(0,4,-1)=OUTSIDE");
        SCRIPT.play("21 round: UNKNOWN goes before OUTSIDE", ROW + "round(1,16,0)=UNKNOWN; round(-1,-1,0)=UNKNOWN; round(4,0,-1)=UNKNOWN; round(1,0,-1)=UNKNOWN; round(0,16,-2)=OUTSIDE");
        SCRIPT.play("21 round: NONE, there is no i-th", ROW + "round(0,6,2)=NONE; round(0,6,-2)=NONE; round(0,6,2147483647)=NONE; round(0,6,-2147483648)=NONE; round(0,6,1)=2");
        SCRIPT.play("21 round: NONE, a TOWN of the set can not be come to", ROW + "round(0,8,-1)=NONE; round(0,8,0)=NONE; round(0,14,0)=NONE; road(2,3,1,1)=0; round(0,14,-1)=NONE; road(2,3,1,2)=1; round(0,14,-1)=12");
        SCRIPT.play("21 round: as it LIMPS now, all the way", ROW + "road(1,2,3,1)=3; round(0,4,-1)=NONE; day AbA+; done()=2; round(0,4,-1)=8; road(0,1,2,2)=2; round(0,4,-1)=NONE; road(0,1,2,0)=2; round(0,4,-1)=8");
        SCRIPT.play("21 round: the first of several orders", "person(0,0,0,0,0)=1; road(0,1,1,0)=0; road(0,2,1,0)=0; road(0,3,1,0)=0; round(0,14,-1)=6; round(0,14,0)=1; round(0,14,1)=2; round(0,14,2)=3; road(1,3,1,0)=0; round(0,14,-1)=5; round(0,14,0)=1; round(0,14,1)=3; round(0,14,2)=2");
        SCRIPT.play("21 round: HOME in the set, it is elsewhere", ROW + "day AbAc; done()=2; round(0,7,-1)=5; round(0,7,0)=2; round(0,7,1)=1; round(0,7,2)=0; round(0,5,0)=2; round(0,5,1)=0; round(0,2,0)=1; round(0,2,-1)=5");
        SCRIPT.play("21 round: nobody walks by it", ROW + "round(0,6,-1)=10; state(0,0)=0; state(0,6)=0; trodden(0,1,2)=0");
    }

    private static void together() {
        SCRIPT.play("22 together: what is 0 to 2", ROW + "together(1,1,2,-1)=OUTSIDE; together(1,1,2,3)=OUTSIDE; together(1,1,2,2147483647)=OUTSIDE; together(1,1,2,0)=10; together(1,1,2,2)=0");
        SCRIPT.play("22 together: the set is empty", ROW + "together(0,1,2,0)=OUTSIDE; together(0,1,2,1)=OUTSIDE");
        SCRIPT.play("22 together: the set is not of PEOPLE who are there", ROW + "together(2,1,2,0)=OUTSIDE; together(3,1,2,0)=OUTSIDE; together(15,1,2,0)=OUTSIDE; together(16,1,2,0)=OUTSIDE; together(17,1,2,0)=OUTSIDE; together(-1,1,2,0)=OUTSIDE; together(-2147483648,1,2,0)=OUTSIDE; together(-2147483647,1,2,0)=OUTSIDE; together(2147483647,1,2,0)=OUTSIDE");
        SCRIPT.play("22 together: all four", "road(0,1,1,0)=0; person(0,0,0,0,0)=1; person(1,0,0,0,0)=2; person(2,0,0,0,0)=3; person(3,1,0,0,0)=4; together(15,1,0,0)=0; together(15,1,0,1)=3; together(15,1,0,2)=0; together(8,1,0,0)=2; together(8,1,0,1)=3; together(8,1,0,2)=3; leave(3)=3; together(15,1,0,0)=OUTSIDE; together(7,1,0,0)=2");
        SCRIPT.play("22 together: TOWNS", ROW + "together(1,-1,0,0)=UNKNOWN; together(1,0,-1,0)=UNKNOWN; together(1,4,0,0)=UNKNOWN; together(1,0,4,0)=UNKNOWN; together(1,2147483647,0,0)=UNKNOWN; together(1,0,0,0)=0");
        SCRIPT.play("22 together: UNKNOWN goes before OUTSIDE", ROW + "together(0,4,0,0)=UNKNOWN; together(2,0,4,0)=UNKNOWN; together(1,4,4,3)=UNKNOWN; together(0,0,0,3)=OUTSIDE");
        SCRIPT.play("22 together: x and y may be one TOWN", ROW + "together(1,1,1,0)=4; together(1,1,1,1)=0; together(1,1,1,2)=0; together(1,0,0,0)=0");
        SCRIPT.play("22 together: NONE, there is no way to one of them", ROW + "together(1,3,1,0)=NONE; together(1,1,3,1)=NONE; together(1,3,3,2)=NONE; person(1,3,0,0,0)=2; together(3,3,1,0)=4; together(3,3,1,1)=1; together(3,3,1,2)=0; together(2,3,3,0)=0; together(2,3,1,0)=NONE");
        SCRIPT.play("22 together: FAR of who does not LIMP", ROW + "road(0,1,2,1)=2; together(1,1,1,0)=NONE; road(0,1,2,2)=2; together(1,1,1,0)=4; day AbA+; done()=2; state(0,5)=1; together(1,1,1,0)=4");
        SCRIPT.play("22 together: FAR of who does not LIMP, from x to y", "road(0,1,1,0)=0; road(0,2,1,0)=0; road(1,2,1,1)=0; person(0,0,0,0,0)=1; together(1,1,2,0)=4; road(1,2,1,2)=1; together(1,1,2,0)=3");
        SCRIPT.play("22 together: FAR of who does not LIMP, of two", "road(0,1,1,1)=0; road(2,3,1,0)=0; person(0,0,0,0,0)=1; person(3,3,0,0,0)=2; together(9,1,3,0)=NONE; together(9,3,1,0)=NONE; road(0,1,1,2)=1; together(9,1,3,0)=2; together(9,3,1,0)=2; together(9,1,2,0)=4; road(2,3,1,1)=1; together(9,1,2,0)=NONE; together(9,2,1,0)=NONE");
        SCRIPT.play("22 together: NONE for all, behind an answer too", ROW + "together(1,1,2,0)=10; together(1,1,2,1)=0; together(1,3,1,0)=NONE; together(1,1,2,1)=0; together(1,3,1,1)=NONE; together(1,1,2,2)=0; together(1,3,1,2)=NONE");
        SCRIPT.play("22 together: from HOME, not from where it is", ROW + "day AbAc; done()=2; together(1,1,2,0)=10");
        SCRIPT.play("22 together: the longest", SIX + "together(8,5,5,0)=90; together(8,5,0,0)=90; together(8,0,5,0)=90");
    }

    private static void firstTogether() {
        SCRIPT.play("22 together: of several who fetches lefts, then rights", """
                road(0,2,1,0)=0; person(0,0,0,0,0)=1; person(1,2,0,0,0)=2; person(2,2,0,0,0)=3; together(7,0,2,0)=0; together(7,0,2,1)=0; together(7,0,2,2)=1
                together(5,0,2,2)=2; together(7,2,0,1)=1; together(7,2,0,2)=0; together(5,2,0,1)=2; together(6,2,2,1)=1; together(6,2,2,2)=1; together(6,2,0,1)=1; together(6,2,0,2)=1; together(6,2,0,0)=2
                """);
        SCRIPT.play("22 together: one both, if that is as far as two", "road(0,1,1,0)=0; road(0,2,1,0)=0; person(1,0,0,0,0)=1; person(2,0,0,0,0)=2; together(6,1,2,0)=4; together(6,1,2,1)=1; together(6,1,2,2)=1");
        SCRIPT.play("22 together: two, if that is less; one, if it is as far", """
                road(0,1,1,0)=0; road(1,2,1,0)=0; road(2,3,1,0)=0; person(0,0,0,0,0)=1; person(3,3,0,0,0)=2; together(9,1,2,0)=4; together(9,1,2,1)=0; together(9,1,2,2)=0
                together(8,1,2,0)=4; together(9,2,1,1)=0; together(9,2,1,2)=0; road(1,2,2,0)=1; together(9,1,2,0)=4; together(9,1,2,1)=0; together(9,1,2,2)=3
                together(9,2,1,0)=4; together(9,2,1,1)=3; together(9,2,1,2)=0; together(1,1,2,0)=6; together(8,1,2,0)=6
                """);
    }

    private static void parted() {
        SCRIPT.play("23 parted: no ROADS: none to close", "parted(0,1,0)=0; parted(0,1,1)=0; parted(3,2,0)=0; road(0,1,1,0)=0; parted(2,3,0)=0; parted(0,3,1)=0");
        SCRIPT.play("23 parted: one ROAD", "road(2,3,1,0)=0; parted(2,3,0)=1; parted(3,2,1)=1; road(0,1,1,0)=0; parted(2,3,1)=2; parted(0,1,1)=1");
        SCRIPT.play("23 parted: all ROADS there can be", ALL_ROADS + "parted(0,5,0)=5; parted(0,5,1)=31; parted(5,0,1)=31; parted(4,5,0)=5; parted(4,5,1)=21640; parted(5,4,1)=21640; parted(1,2,1)=481; parted(2,5,1)=3618");
        SCRIPT.play("23 parted: whatever RULES they have", "road(0,1,1,1)=0; road(0,2,1,2)=0; road(1,2,9,0)=0; parted(0,1,0)=2; parted(0,1,1)=3; parted(1,2,1)=5");
        SCRIPT.play("23 parted: ROADS that there are are numbered, others not", "road(0,3,1,0)=0; road(1,2,1,0)=0; parted(0,3,1)=1; parted(1,2,1)=2; road(0,1,1,0)=0; parted(0,3,1)=2; parted(0,2,1)=1; road(0,1,0,0)=1; parted(1,2,1)=2");
        SCRIPT.play("23 parted: of as few the least as bits, from either TOWN", "road(0,1,1,0)=0; road(1,2,1,0)=0; road(2,3,1,0)=0; parted(0,3,1)=1; parted(3,0,1)=1; parted(3,1,1)=2; parted(1,3,1)=2; parted(2,3,1)=4");
        SCRIPT.play("23 parted: fewer go before less as bits", "road(0,1,1,0)=0; road(0,2,1,0)=0; road(1,2,1,0)=0; road(2,3,1,0)=0; parted(0,3,0)=1; parted(0,3,1)=8; parted(3,1,1)=8; parted(0,2,0)=2; parted(0,2,1)=3; parted(1,2,1)=5");
        SCRIPT.play("23 parted: both are one, or there is no such TOWN", "parted(0,0,0)=UNKNOWN; parted(3,3,1)=UNKNOWN; parted(-1,0,0)=UNKNOWN; parted(0,-1,0)=UNKNOWN; parted(4,0,0)=UNKNOWN; parted(0,4,0)=UNKNOWN; parted(4,4,0)=UNKNOWN; parted(0,3,0)=0");
        SCRIPT.play("23 parted: what is 0 or 1; UNKNOWN goes before OUTSIDE", "parted(0,1,-1)=OUTSIDE; parted(0,1,2)=OUTSIDE; parted(0,1,2147483647)=OUTSIDE; parted(0,0,2)=UNKNOWN; parted(4,0,-1)=UNKNOWN; parted(0,1,1)=0");
        SCRIPT.play("23 parted: no ROAD is closed by it", ROW + "parted(0,2,0)=1; told(111)=2; told(212)=3; far(0,2,0)=5");
    }

    private static void pairs() {
        SCRIPT.play("24 pairs: empty STOCKS", "pairs(0,1,0,0)=0; pairs(0,1,0,1)=0; pairs(0,1,4,0)=0; pairs(0,1,4,1)=0; stock(0,0,9)=0; pairs(0,1,4,0)=0; pairs(0,1,4,1)=9; pairs(1,0,4,0)=0; pairs(1,0,4,1)=9");
        SCRIPT.play("24 pairs: full STOCKS", """
                stock(0,0,9)=0; stock(0,1,9)=0; stock(0,2,9)=0; stock(0,3,9)=0; stock(0,4,9)=0; stock(3,0,9)=0; stock(3,1,9)=0; stock(3,2,9)=0; stock(3,3,9)=0; stock(3,4,9)=0
                pairs(0,3,0,0)=45; pairs(0,3,0,1)=0; pairs(3,0,4,0)=45; pairs(3,0,4,1)=0; stock(3,4,8)=9; pairs(0,3,0,0)=44; pairs(0,3,0,1)=1
                """);
        SCRIPT.play("24 pairs: SPAN 0: the same SIZE alone", "stock(0,2,3)=0; stock(1,1,9)=0; stock(1,3,9)=0; pairs(0,1,0,0)=0; pairs(0,1,0,1)=21; stock(1,2,2)=0; pairs(0,1,0,0)=2; pairs(0,1,0,1)=19; pairs(0,1,1,0)=3");
        SCRIPT.play("24 pairs: SPAN apart at most, not one more", "stock(0,0,1)=0; stock(1,4,1)=0; pairs(0,1,3,0)=0; pairs(0,1,3,1)=2; pairs(0,1,4,0)=1; pairs(0,1,4,1)=0; pairs(1,0,3,0)=0; pairs(1,0,4,0)=1; stock(1,4,0)=1; stock(1,3,1)=0; pairs(0,1,2,0)=0; pairs(0,1,3,0)=1");
        SCRIPT.play("24 pairs: SPAN is 0 to 4", "pairs(0,1,-1,0)=OUTSIDE; pairs(0,1,5,0)=OUTSIDE; pairs(0,1,2147483647,0)=OUTSIDE; pairs(0,1,-2147483648,1)=OUTSIDE; pairs(0,1,4,1)=0");
        SCRIPT.play("24 pairs: what is 0 or 1", "pairs(0,1,0,-1)=OUTSIDE; pairs(0,1,0,2)=OUTSIDE; pairs(0,1,0,2147483647)=OUTSIDE");
        SCRIPT.play("24 pairs: both are one, or there is no such TOWN", "pairs(0,0,0,0)=UNKNOWN; pairs(3,3,4,1)=UNKNOWN; pairs(-1,0,0,0)=UNKNOWN; pairs(0,-1,0,0)=UNKNOWN; pairs(4,0,0,0)=UNKNOWN; pairs(0,4,0,0)=UNKNOWN; pairs(3,0,0,0)=0");
        SCRIPT.play("24 pairs: UNKNOWN goes before OUTSIDE", "pairs(0,0,5,0)=UNKNOWN; pairs(4,0,0,2)=UNKNOWN; pairs(0,-1,-1,-1)=UNKNOWN; pairs(0,1,5,2)=OUTSIDE");
        SCRIPT.play("24 pairs: each SIZE goes with its own and the next one", """
                stock(0,0,2)=0; stock(0,1,2)=0; stock(0,2,2)=0; stock(0,3,2)=0; stock(0,4,2)=0; stock(1,0,1)=0; stock(1,1,2)=0; stock(1,2,2)=0; stock(1,3,2)=0; stock(1,4,2)=0
                pairs(0,1,1,0)=9; pairs(0,1,1,1)=1; pairs(1,0,1,0)=9; pairs(0,1,0,0)=9; stock(1,0,0)=1; stock(1,4,3)=2; pairs(0,1,1,0)=9; pairs(0,1,0,0)=8; pairs(0,1,0,1)=3
                """);
        SCRIPT.play("24 pairs: whatever their SHOPS sell", "stock(0,0,1)=0; stock(1,0,1)=0; pairs(0,1,0,0)=1; shop(0,2,1)=0; shop(1,1,1)=0; pairs(0,1,0,0)=1; shop(0,1,1)=2; shop(1,2,1)=1; pairs(0,1,0,0)=1");
        SCRIPT.play("24 pairs: the most, though the nearest would be fewer", "stock(0,1,1)=0; stock(0,2,1)=0; stock(1,0,1)=0; stock(1,1,1)=0; pairs(0,1,1,0)=2; pairs(1,0,1,0)=2; pairs(0,1,0,0)=1; pairs(0,1,0,1)=2; stock(0,4,1)=0; pairs(0,1,1,0)=2; pairs(0,1,1,1)=1");
    }

    private static void rests() {
        SCRIPT.play("25 rests: nobody there: all of them", "rests(-1)=100; rests(0)=0; rests(1)=1; rests(10)=10; rests(50)=50; rests(98)=98; rests(99)=99; rests(100)=NONE");
        SCRIPT.play("25 rests: NONE, there is no i-th", "rests(100)=NONE; rests(-2)=NONE; rests(2147483647)=NONE; rests(-2147483648)=NONE; person(0,0,0,0,18)=1; rests(0)=99; rests(1)=NONE; rests(-2)=NONE");
        SCRIPT.play("25 rests: an empty PURSE: all of them", "person(0,0,0,0,0)=1; rests(-1)=100; rests(99)=99");
        SCRIPT.play("25 rests: a PURSE of 1", "person(0,0,0,0,1)=1; rests(-1)=83; rests(0)=1; rests(1)=10; rests(2)=11; rests(82)=99; rests(83)=NONE");
        SCRIPT.play("25 rests: PRICES are 9 at most: PURSES of 17, 18, 19, 99", """
                person(0,0,0,0,17)=1; rests(-1)=2; rests(0)=89; rests(1)=98; rests(2)=NONE; person(0,0,0,0,18)=1; rests(-1)=1; rests(0)=99
                person(0,0,0,0,19)=1; rests(-1)=1; person(0,0,0,0,99)=1; rests(-1)=1; rests(0)=99; rests(1)=NONE
                """);
        SCRIPT.play("25 rests: no more than its PURSE: as much will do", "person(0,0,0,0,9)=1; rests(-1)=11; rests(0)=9; rests(1)=18; rests(9)=90; rests(10)=99; rests(11)=NONE");
        SCRIPT.play("25 rests: all four buy", "person(0,0,0,0,18)=1; person(1,0,0,0,18)=2; person(2,0,0,0,18)=3; person(3,0,0,0,18)=4; rests(-1)=1; rests(0)=99; leave(0)=3; rests(0)=99; person(3,0,0,0,0)=3; rests(0)=99");
    }

    private static void owner() {
        SCRIPT.play("26 owner: nobody there, empty PURSES", "owner(0)=0; owner(1)=0; person(0,0,0,0,0)=1; owner(0)=0; owner(1)=0");
        SCRIPT.play("26 owner: 99 is the most, of four", "person(0,0,0,0,99)=1; owner(0)=99; owner(1)=99; person(1,0,0,0,99)=2; person(2,0,0,0,99)=3; person(3,0,0,0,99)=4; owner(0)=99; owner(1)=396; leave(3)=3; owner(1)=297");
        SCRIPT.play("26 owner: a PURSE of 1", "person(0,0,0,0,1)=1; owner(0)=1; owner(1)=1");
        SCRIPT.play("26 owner: of several the least", "person(0,0,0,0,10)=1; person(1,0,0,0,20)=2; owner(0)=10; owner(1)=20; person(1,0,0,0,21)=2; owner(0)=21; owner(1)=21; person(1,0,0,0,19)=2; owner(0)=10; owner(1)=20; person(2,0,0,0,5)=3; person(3,0,0,0,5)=4; owner(0)=5; owner(1)=20");
        SCRIPT.play("26 owner: what is 0 or 1", "owner(-1)=OUTSIDE; owner(2)=OUTSIDE; owner(2147483647)=OUTSIDE; owner(-2147483648)=OUTSIDE");
    }
}
