/**
 * Terms 1 and the promises 1 to 11: for each sentence that names a boundary a run of its own, whose
 * title is that sentence, as near as may be.
 */
public final class EdgesOfTownsTest {
    private static final String ROW = Script.ROW;
    private static final Script SCRIPT = new Script();

    private EdgesOfTownsTest() {
    }

    public static void main(String[] args) {
        newObject();
        twoObjects();
        manyCalls();
        towns();
        townsAreAsAtFirst();
        roads();
        shops();
        stocks();
        people();
        leaving();
        settings();
        signs();
        faults();
        SCRIPT.end();
    }

    private static void newObject() {
        SCRIPT.play("1 four TOWNS: d is one, e is not", """
                told(1)=4; told(13)=0; told(14)=OUTSIDE; far(3,3,0)=0; far(4,4,0)=UNKNOWN; seen(0,3)=1; seen(0,4)=UNKNOWN
                day Ad; fault()=NONE; day Ae; fault()=1
                """);
        SCRIPT.play("1 without ROADS", """
                told(111)=0; told(112)=0; told(113)=0; told(210)=0; told(212)=0; told(213)=0
                told(310)=0; told(311)=0; told(313)=0; told(410)=0; told(411)=0; told(412)=0
                told(121)=0; told(122)=0; told(123)=0; told(220)=0; told(222)=0; told(223)=0
                told(320)=0; told(321)=0; told(323)=0; told(420)=0; told(421)=0; told(422)=0
                far(0,3,0)=NONE; far(0,3,1)=NONE; trodden(0,1,0)=STATE; trodden(3,2,2)=STATE; parted(0,3,0)=0; parted(0,3,1)=0
                """);
        SCRIPT.play("1 SHOPS sell nothing at PRICE 0, STOCKS are 0, as at first", """
                told(10)=0; told(11)=0; told(12)=0; told(13)=0; told(20)=0; told(21)=0; told(22)=0; told(23)=0
                told(100)=0; told(101)=0; told(102)=0; told(103)=0; told(104)=0; told(200)=0; told(201)=0; told(202)=0; told(203)=0; told(204)=0
                told(300)=0; told(301)=0; told(302)=0; told(303)=0; told(304)=0; told(400)=0; told(401)=0; told(402)=0; told(403)=0; told(404)=0
                """);
        SCRIPT.play("1 nobody is there", """
                told(2)=0; state(0,0)=UNKNOWN; state(1,0)=UNKNOWN; state(2,0)=UNKNOWN; state(3,0)=UNKNOWN
                leave(0)=UNKNOWN; behind(0,0)=UNKNOWN; way(0,0,0)=UNKNOWN; shod(0,0)=UNKNOWN; round(0,0,-1)=UNKNOWN
                shut(0,0,0)=LOST UNKNOWN; together(1,0,1,0)=OUTSIDE; track(6,6,2)=0; spy(1)=0; year(0,99,0)=0; year(0,99,1)=0; year(0,99,2)=0
                """);
        SCRIPT.play("1 TOLL 1, K 3, an empty PAD, no SIGHTS, no IMAGES, as at first", """
                told(3)=1; told(4)=3; told(0)=0; told(5)=0; wipe()=0; forget()=0; fault()=NONE; judge(0)=NONE; judge(1)=NONE
                givesOut(1,0)=NONE; filled(-1)=1; filled(0)=NONE; restore(0)=STATE; restore(1)=STATE; done()=0
                """);
    }

    /** What one object is told is nothing to another one. */
    private static void twoObjects() {
        OddShoes one = new OddShoes();
        one.road(0, 1, 5, 1);
        one.shop(0, 2, 7);
        one.stock(0, 3, 4);
        one.person(2, 1, 0, 0, 5);
        one.set(0, 9);
        one.set(1, 9);
        one.seen(0, 0);
        one.say('A');
        one.image(0);
        OddShoes other = new OddShoes();
        boolean isNew = other.told(0) == 0 && other.told(2) == 0 && other.told(3) == 1 && other.told(4) == 3
                && other.told(5) == 0 && other.told(10) == 0 && other.told(20) == 0 && other.told(103) == 0
                && other.told(111) == 0 && other.told(121) == 0 && other.restore(0) == OddShoes.STATE;
        SCRIPT.expect("1 a new object is new whatever an older one was told", isNew);
        other.towns(2);
        SCRIPT.expect("1 an older object stays whatever a newer one is told", one.told(1) == 4 && one.told(111) == 5);
    }

    private static void manyCalls() {
        StringBuilder text = new StringBuilder("road(0,1,9,0)=0; shop(0,1,0)=0; stock(0,0,1)=0; person(0,0,0,0,0)=1\n");
        text.append("say(65)=1; say(43)=2; done()=1\n");
        for (int day = 0; day < 8; day++) {
            text.append("day ").append("AbAa".repeat(15)).append("; done()=30\n");
        }
        // 7 calls, 8 days of 62 and these nine are all 512
        text.append("state(0,0)=0; state(0,3)=2160; state(0,6)=2160; state(0,5)=1; state(0,2)=1\n");
        text.append("trodden(0,1,0)=2160; trodden(0,1,1)=0; trodden(0,1,2)=2160; told(0)=0");
        SCRIPT.play("an object is used for 512 calls: the last one is answered too", text.toString());
    }

    private static void towns() {
        SCRIPT.play("2 towns: 2 is the least, 1 is OUTSIDE", "towns(2)=4; towns(1)=OUTSIDE; told(1)=2; towns(0)=OUTSIDE; towns(-1)=OUTSIDE; towns(-2147483648)=OUTSIDE; towns(3)=2");
        SCRIPT.play("2 towns: 6 is the most, 7 is OUTSIDE", "towns(6)=4; towns(7)=OUTSIDE; told(1)=6; towns(8)=OUTSIDE; towns(2147483647)=OUTSIDE; towns(5)=6");
        SCRIPT.play("2 towns: which it was, each number", "towns(2)=4; towns(3)=2; towns(4)=3; towns(5)=4; towns(6)=5; towns(6)=6; towns(2)=6");
        SCRIPT.play("2 towns: of two TOWNS b is the last", """
                towns(2)=4; road(0,1,1,0)=0; road(0,2,1,0)=UNKNOWN; shop(1,1,1)=0; shop(2,1,1)=UNKNOWN; stock(1,0,1)=0; stock(2,0,1)=UNKNOWN
                person(0,1,0,0,0)=1; person(0,2,0,0,0)=UNKNOWN; seen(0,1)=1; seen(0,2)=UNKNOWN; far(0,1,0)=1; far(0,2,0)=UNKNOWN
                way(0,1,-1)=0; way(0,2,-1)=UNKNOWN; round(0,3,-1)=2; round(0,4,-1)=OUTSIDE; together(1,1,1,0)=0; together(1,2,1,0)=UNKNOWN
                parted(0,1,0)=1; parted(0,2,0)=UNKNOWN; pairs(0,1,0,0)=0; pairs(0,2,0,0)=UNKNOWN; trodden(0,1,0)=0; trodden(0,2,0)=UNKNOWN
                told(11)=1; told(12)=OUTSIDE; told(21)=1; told(22)=OUTSIDE; told(200)=1; told(300)=OUTSIDE; told(111)=1; told(112)=OUTSIDE; told(122)=OUTSIDE
                day Ab; fault()=NONE; day Ac; fault()=1
                """);
        SCRIPT.play("2 towns: of six TOWNS f is the last", """
                towns(6)=4; road(4,5,1,0)=0; road(5,6,1,0)=UNKNOWN; shop(5,2,1)=0; shop(6,1,1)=UNKNOWN; stock(5,4,1)=0; stock(6,0,1)=UNKNOWN
                person(3,4,0,4,1)=1; person(0,6,0,0,0)=UNKNOWN; seen(0,5)=1; seen(0,6)=UNKNOWN; far(4,5,0)=1; far(5,6,0)=UNKNOWN
                round(3,63,-1)=NONE; round(3,48,-1)=2; round(3,64,-1)=OUTSIDE; together(8,5,4,0)=2; together(8,5,6,0)=UNKNOWN
                parted(4,5,0)=1; parted(4,6,0)=UNKNOWN; pairs(4,5,0,0)=0; pairs(5,6,0,0)=UNKNOWN; trodden(4,5,0)=0; trodden(5,6,0)=UNKNOWN
                told(15)=2; told(16)=OUTSIDE; told(25)=1; told(26)=OUTSIDE; told(604)=1; told(704)=OUTSIDE; told(515)=1; told(614)=1; told(516)=OUTSIDE
                day Dg; fault()=1; day DfD+De; fault()=NONE; done()=3; state(3,0)=4; state(3,2)=2; trodden(4,5,1)=1; trodden(4,5,2)=3
                """);
    }

    private static void townsAreAsAtFirst() {
        SCRIPT.play("2 towns: ROADS are as at first", """
                road(0,1,2,1)=0; road(2,3,9,2)=0; towns(4)=4; told(111)=0; told(121)=0; told(413)=OUTSIDE; told(412)=0; told(422)=0
                far(0,1,1)=NONE; trodden(0,1,0)=STATE; road(0,1,3,0)=0
                """);
        SCRIPT.play("2 towns: no ROAD is TRODDEN then", """
                road(0,1,2,0)=0; person(0,0,0,0,0)=1; day Ab; done()=1; trodden(0,1,2)=4; image(0)=1; towns(4)=4
                person(0,0,0,0,0)=1; road(0,1,2,0)=0; trodden(0,1,2)=0; day Ab; done()=1; trodden(0,1,2)=4; restore(0)=1; trodden(0,1,2)=4
                """);
        SCRIPT.play("2 towns: SHOPS are as at first", "shop(0,1,20)=0; shop(3,2,1)=0; towns(4)=4; told(10)=0; told(20)=0; told(13)=0; told(23)=0; shop(0,2,1)=0");
        SCRIPT.play("2 towns: STOCKS are as at first", "stock(0,0,9)=0; stock(3,4,1)=0; towns(4)=4; told(100)=0; told(404)=0; stock(0,0,1)=0");
        SCRIPT.play("2 towns: PEOPLE are as at first", "person(0,0,0,0,0)=1; person(3,3,4,4,99)=2; towns(4)=4; told(2)=0; leave(3)=UNKNOWN; person(1,0,0,0,0)=1; spy(1)=1; track(6,6,2)=2");
        SCRIPT.play("2 towns: SIGHTS are as at first", "seen(0,0)=1; seen(1,1)=2; towns(4)=4; told(5)=0; filled(-1)=1; forget()=0; seen(0,0)=1");
        SCRIPT.play("2 towns: the same number again clears too", ROW + "seen(0,0)=1; towns(4)=4; told(1)=4; told(2)=0; told(111)=0; told(11)=0; told(202)=0; told(5)=0");
        SCRIPT.play("2 towns: TOLL and K are not named, they stay", "set(0,9)=1; set(1,9)=3; towns(3)=4; told(3)=9; told(4)=9");
        SCRIPT.play("2 towns: the PAD is not named, it stays; a letter may become a TOWN's or no TOWN's", """
                day Ae; fault()=1; towns(5)=4; told(0)=2; fault()=NONE; towns(4)=5; fault()=1; told(0)=2; wipe()=2
                """);
        SCRIPT.play("2 towns: IMAGES are not named, they stay", ROW + "image(1)=1; towns(2)=4; restore(1)=1; told(1)=4; told(2)=1; told(111)=2; restore(0)=STATE");
        SCRIPT.play("2 towns: refused, it changes nothing", ROW + """
                seen(0,1)=1; towns(7)=OUTSIDE; towns(1)=OUTSIDE; told(1)=4; told(2)=1; told(5)=1; told(111)=2; told(11)=1; told(202)=1
                """);
    }

    private static void roads() {
        SCRIPT.play("3 road: 1 mile is the least, 0 is none", "road(0,1,1,0)=0; told(111)=1; far(0,1,0)=1; road(0,1,0,0)=1; told(111)=0; far(0,1,0)=NONE; trodden(0,1,0)=STATE");
        SCRIPT.play("3 road: 9 miles are the most", "road(0,1,9,0)=0; road(0,1,10,0)=OUTSIDE; told(111)=9; road(0,1,2147483647,0)=OUTSIDE; road(0,1,8,0)=9");
        SCRIPT.play("3 road: fewer than 0 are OUTSIDE", "road(0,1,-1,0)=OUTSIDE; road(0,1,-2147483648,0)=OUTSIDE; told(111)=0");
        SCRIPT.play("3 road: RULES are 0 to 2", """
                road(0,1,1,-1)=OUTSIDE; road(0,1,1,3)=OUTSIDE; told(111)=0; road(0,1,1,0)=0; told(121)=0; road(0,1,1,1)=1; told(121)=1
                road(0,1,1,2)=1; told(121)=2; road(0,1,1,3)=OUTSIDE; told(121)=2
                """);
        SCRIPT.play("3 road: RULE 0, all may walk it; 1, those alone who LIMP; 2, those alone who do not", """
                road(0,1,1,0)=0; far(0,1,0)=1; far(0,1,1)=1; road(0,1,1,1)=1; far(0,1,0)=NONE; far(0,1,1)=1
                road(0,1,1,2)=1; far(0,1,0)=1; far(0,1,1)=NONE
                """);
        SCRIPT.play("3 road: it is one ROAD both ways", "road(3,1,7,2)=0; told(213)=7; told(411)=7; told(223)=2; told(421)=2; road(1,3,4,0)=7; told(411)=4; road(3,1,1,0)=4");
        SCRIPT.play("3 road: both are one TOWN", "road(0,0,1,0)=UNKNOWN; road(3,3,1,0)=UNKNOWN; road(4,4,1,0)=UNKNOWN; road(-1,-1,1,0)=UNKNOWN; road(2,2,10,3)=UNKNOWN; road(2,2,0,0)=UNKNOWN");
        SCRIPT.play("3 road: a TOWN that there is not, the first or the other one", """
                road(-1,0,1,0)=UNKNOWN; road(0,-1,1,0)=UNKNOWN; road(4,0,1,0)=UNKNOWN; road(0,4,1,0)=UNKNOWN
                road(2147483647,0,1,0)=UNKNOWN; road(0,-2147483648,1,0)=UNKNOWN; road(0,3,1,0)=0
                """);
        SCRIPT.play("3 road: UNKNOWN goes before OUTSIDE", "road(4,0,10,0)=UNKNOWN; road(0,4,0,3)=UNKNOWN; road(1,1,-1,-1)=UNKNOWN; road(0,1,10,3)=OUTSIDE");
        SCRIPT.play("3 road: each of fifteen ROADS is another one", """
                towns(6)=4; road(0,1,1,0)=0; road(0,2,2,1)=0; road(0,3,3,2)=0; road(0,4,4,0)=0; road(0,5,5,1)=0; road(1,2,6,2)=0; road(1,3,7,0)=0
                road(1,4,8,1)=0; road(1,5,9,2)=0; road(2,3,1,1)=0; road(2,4,2,2)=0; road(2,5,3,0)=0; road(3,4,4,1)=0; road(3,5,5,2)=0; road(4,5,6,0)=0
                told(111)=1; told(112)=2; told(113)=3; told(114)=4; told(115)=5; told(212)=6; told(213)=7; told(214)=8; told(215)=9
                told(313)=1; told(314)=2; told(315)=3; told(414)=4; told(415)=5; told(515)=6
                told(121)=0; told(122)=1; told(123)=2; told(124)=0; told(125)=1; told(222)=2; told(223)=0; told(224)=1; told(225)=2
                told(323)=1; told(324)=2; told(325)=0; told(424)=1; told(425)=2; told(525)=0; told(523)=1; told(524)=OUTSIDE; told(614)=6; told(610)=5
                """);
        SCRIPT.play("3 road: told anew it is not TRODDEN, as long as before too; others stay so", """
                road(0,1,2,0)=0; road(1,2,2,0)=0; person(0,0,0,0,0)=1; day AbAc; done()=2; road(0,1,2,0)=2; trodden(0,1,2)=0; trodden(1,2,2)=4
                road(2,1,2,1)=2; trodden(1,2,2)=0
                """);
        SCRIPT.play("3 road: told anew it is not TRODDEN by any foot", ROW + "day AbA+AcA+Ab; done()=5; trodden(1,2,0)=6; trodden(1,2,1)=3; trodden(1,2,2)=3; road(1,2,3,0)=3; trodden(1,2,0)=0; trodden(1,2,1)=0; trodden(1,2,2)=0");
        SCRIPT.play("3 road: told anew, the ROADS before and behind it stay TRODDEN, by each foot", """
                road(0,1,1,0)=0; road(0,2,1,0)=0; road(0,3,1,0)=0; shop(0,1,0)=0; stock(0,0,1)=0; person(0,0,0,0,0)=1; day AbAaAcAaA+AcAaAdAa; done()=9; image(0)=1
                trodden(0,1,2)=4; trodden(0,2,0)=2; trodden(0,2,2)=6; trodden(0,3,0)=2; trodden(0,3,2)=2
                road(0,2,1,0)=1; trodden(0,1,2)=4; trodden(0,2,0)=0; trodden(0,2,2)=0; trodden(0,3,0)=2; trodden(0,3,2)=2
                restore(0)=1; road(0,1,1,0)=1; trodden(0,2,0)=2; trodden(0,2,2)=6; restore(0)=1; road(0,3,1,0)=1; trodden(0,2,0)=2; trodden(0,2,2)=6; trodden(0,1,2)=4
                """);
        SCRIPT.play("3 road: refused, it stays TRODDEN", "road(0,1,2,0)=0; person(0,0,0,0,0)=1; day Ab; done()=1; road(0,1,10,0)=OUTSIDE; road(0,1,2,3)=OUTSIDE; trodden(0,1,2)=4; told(111)=2");
        SCRIPT.play("3 road: a RULE is kept where there is no ROAD", "road(0,1,0,2)=0; told(111)=0; told(121)=2; far(0,1,0)=NONE; far(0,1,1)=NONE; road(0,1,1,0)=0; told(121)=0");
    }

    private static void shops() {
        SCRIPT.play("4 shop: PRICES are 0 to 20", "shop(0,1,0)=0; told(20)=0; shop(0,1,20)=1; told(20)=20; shop(0,1,21)=OUTSIDE; shop(0,1,-1)=OUTSIDE; told(20)=20; shop(0,1,-2147483648)=OUTSIDE; shop(0,1,2147483647)=OUTSIDE; told(10)=1");
        SCRIPT.play("4 shop: sides are 0 to 2", "shop(0,-1,5)=OUTSIDE; shop(0,3,5)=OUTSIDE; told(20)=0; shop(0,1,5)=0; shop(0,2,6)=1; shop(0,0,7)=2; shop(0,3,8)=OUTSIDE; told(10)=0; told(20)=7; shop(0,1,9)=0");
        SCRIPT.play("4 shop: TOWNS 0 to n less 1", "shop(-1,1,1)=UNKNOWN; shop(4,1,1)=UNKNOWN; shop(-2147483648,1,1)=UNKNOWN; shop(2147483647,1,1)=UNKNOWN; shop(0,1,1)=0; shop(3,2,2)=0; told(10)=1; told(11)=0; told(12)=0; told(13)=2");
        SCRIPT.play("4 shop: UNKNOWN goes before OUTSIDE", "shop(4,3,0)=UNKNOWN; shop(-1,0,21)=UNKNOWN; shop(4,-1,-1)=UNKNOWN; shop(0,3,21)=OUTSIDE");
        SCRIPT.play("4 shop: STOCK stays whatever the SHOP sells", "stock(0,0,5)=0; shop(0,1,1)=0; shop(0,2,1)=1; shop(0,0,0)=2; told(100)=5");
        SCRIPT.play("4 shop: who sells nothing keeps the PRICE that it was told", "shop(0,0,20)=0; told(10)=0; told(20)=20");
    }

    private static void stocks() {
        SCRIPT.play("5 stock: 0 to 9 of each", "stock(0,0,9)=0; stock(0,0,10)=OUTSIDE; stock(0,0,-1)=OUTSIDE; told(100)=9; stock(0,0,0)=9; told(100)=0; stock(0,0,2147483647)=OUTSIDE; stock(0,0,-2147483648)=OUTSIDE; stock(0,0,1)=0");
        SCRIPT.play("5 stock: SIZES 0 to 4", "stock(0,-1,1)=UNKNOWN; stock(0,5,1)=UNKNOWN; told(100)=0; told(104)=0; told(200)=0; stock(0,0,1)=0; stock(0,4,2)=0; told(100)=1; told(104)=2; stock(0,2147483647,1)=UNKNOWN; stock(0,-2147483648,1)=UNKNOWN");
        SCRIPT.play("5 stock: TOWNS 0 to n less 1", "stock(-1,4,1)=UNKNOWN; stock(4,0,1)=UNKNOWN; told(404)=0; stock(3,4,3)=0; told(404)=3; stock(2147483647,0,0)=UNKNOWN; stock(-2147483648,0,0)=UNKNOWN");
        SCRIPT.play("5 stock: each SIZE of each TOWN is another one", """
                stock(0,4,1)=0; stock(1,0,2)=0; stock(1,4,3)=0; stock(2,0,4)=0; stock(2,4,5)=0; stock(3,0,6)=0
                told(104)=1; told(200)=2; told(204)=3; told(300)=4; told(304)=5; told(400)=6; told(103)=0; told(201)=0
                """);
        SCRIPT.play("5 stock: UNKNOWN goes before OUTSIDE", "stock(4,0,10)=UNKNOWN; stock(0,5,10)=UNKNOWN; stock(-1,-1,-1)=UNKNOWN; stock(0,0,10)=OUTSIDE");
        SCRIPT.play("5 stock: which it was, behind a DAY too", ROW + "day AbA+; done()=2; stock(1,2,9)=0; stock(2,2,9)=2");
    }

    private static void people() {
        SCRIPT.play("6 person: PEOPLE 0 to 3", "person(-1,0,0,0,0)=UNKNOWN; person(4,0,0,0,0)=UNKNOWN; told(2)=0; person(0,0,0,0,0)=1; told(2)=1; person(3,0,0,0,0)=2; told(2)=9; person(2147483647,0,0,0,0)=UNKNOWN; person(-2147483648,0,0,0,0)=UNKNOWN");
        SCRIPT.play("6 person: how many are, until all are there", "person(2,0,0,0,0)=1; person(0,0,0,0,0)=2; person(3,0,0,0,0)=3; person(1,0,0,0,0)=4; told(2)=15; person(1,0,0,0,0)=4");
        SCRIPT.play("6 person: HOME is a TOWN that there is", "person(0,-1,0,0,0)=UNKNOWN; person(0,4,0,0,0)=UNKNOWN; told(2)=0; person(0,3,0,0,0)=1; state(0,0)=3; person(0,0,0,0,0)=1; state(0,0)=0");
        SCRIPT.play("6 person: the left SIZE is 0 to 4", "person(0,0,-1,0,0)=UNKNOWN; person(0,0,5,0,0)=UNKNOWN; told(2)=0; person(0,0,0,1,0)=1; spy(0)=1; person(0,0,4,1,0)=1; spy(0)=41");
        SCRIPT.play("6 person: the right SIZE is 0 to 4", "person(0,0,0,-1,0)=UNKNOWN; person(0,0,0,5,0)=UNKNOWN; told(2)=0; person(0,0,1,0,0)=1; spy(0)=10; person(0,0,1,4,0)=1; spy(0)=14");
        SCRIPT.play("6 person: a PURSE of 0 to 99", "person(0,0,0,0,-1)=OUTSIDE; person(0,0,0,0,100)=OUTSIDE; told(2)=0; person(0,0,0,0,0)=1; state(0,1)=0; person(0,0,0,0,99)=1; state(0,1)=99; person(0,0,0,0,100)=OUTSIDE; person(0,0,0,0,-2147483648)=OUTSIDE; state(0,1)=99");
        SCRIPT.play("6 person: UNKNOWN goes before OUTSIDE", "person(4,0,0,0,100)=UNKNOWN; person(0,4,0,0,-1)=UNKNOWN; person(0,0,5,0,100)=UNKNOWN; person(0,0,0,5,100)=UNKNOWN; person(0,0,0,0,100)=OUTSIDE");
        SCRIPT.play("6 person: at HOME at first, without shoes, no miles walked", "person(1,2,0,0,7)=1; state(1,0)=2; state(1,1)=7; state(1,2)=0; state(1,3)=0; state(1,4)=0; state(1,5)=0; state(1,6)=0");
        SCRIPT.play("6 person: anew, it is as at first again", ROW + """
                stock(2,2,2)=2; day AbA+AcA+Ab; done()=5; state(0,2)=3; state(0,5)=1; state(0,6)=8; person(0,3,1,4,50)=1; told(2)=1
                state(0,0)=3; state(0,1)=50; state(0,2)=0; state(0,3)=0; state(0,4)=0; state(0,5)=0; state(0,6)=0; spy(0)=14; round(0,0,-1)=0
                """);
        SCRIPT.play("6 person: refused, who is there stays as it is", ROW + """
                day AbA+; done()=2; person(0,4,0,0,0)=UNKNOWN; person(0,0,0,0,100)=OUTSIDE; state(0,0)=1; state(0,1)=16; state(0,2)=1; state(0,6)=2; spy(0)=22
                """);
    }

    private static void leaving() {
        SCRIPT.play("7 leave: it was not there", "leave(0)=UNKNOWN; leave(3)=UNKNOWN; leave(-1)=UNKNOWN; leave(4)=UNKNOWN; leave(2147483647)=UNKNOWN; leave(-2147483648)=UNKNOWN; told(2)=0");
        SCRIPT.play("7 leave: how many are there, until nobody is", "person(0,0,0,0,0)=1; person(1,0,0,0,0)=2; person(2,0,0,0,0)=3; person(3,0,0,0,0)=4; leave(3)=3; leave(0)=2; leave(0)=UNKNOWN; told(2)=6; leave(1)=1; leave(2)=0; told(2)=0; leave(2)=UNKNOWN");
        SCRIPT.play("7 leave: who left is not there for any call", ROW + """
                leave(0)=0; state(0,0)=UNKNOWN; behind(0,0)=UNKNOWN; way(0,0,0)=UNKNOWN; shod(0,0)=UNKNOWN; round(0,0,0)=UNKNOWN; shut(0,0,0)=LOST UNKNOWN
                together(1,0,0,0)=OUTSIDE; track(5,5,2)=0; track(6,6,2)=0; spy(1)=0; owner(1)=0; rests(-1)=100; year(1,99,0)=0; day A-; judge(1)=1
                """);
        SCRIPT.play("7 leave: ROADS stay TRODDEN, what was bought is gone", ROW + "day AbA+; done()=2; leave(0)=0; trodden(0,1,2)=4; told(202)=0");
        SCRIPT.play("7 leave: who comes again is as at first", ROW + "day AbA+; done()=2; leave(0)=0; person(0,2,1,1,5)=1; state(0,0)=2; state(0,1)=5; state(0,2)=0; state(0,6)=0");
    }

    private static void settings() {
        SCRIPT.play("8 set: TOLL is 0 to 9", "set(0,0)=1; told(3)=0; set(0,9)=0; told(3)=9; set(0,10)=OUTSIDE; set(0,-1)=OUTSIDE; told(3)=9; told(4)=3; set(0,2147483647)=OUTSIDE; set(0,-2147483648)=OUTSIDE");
        SCRIPT.play("8 set: K is 1 to 9", "set(1,1)=3; told(4)=1; set(1,9)=1; told(4)=9; set(1,10)=OUTSIDE; set(1,0)=OUTSIDE; set(1,-1)=OUTSIDE; told(4)=9; told(3)=1");
        SCRIPT.play("8 set: which is 0 or 1", "set(2,1)=OUTSIDE; set(-1,1)=OUTSIDE; set(2,10)=OUTSIDE; set(2147483647,1)=OUTSIDE; set(-2147483648,1)=OUTSIDE; told(3)=1; told(4)=3");
        SCRIPT.play("LIMPS: WEAR of two shoes K or more apart, K 1", """
                set(1,1)=3; road(0,1,1,0)=0; shop(0,1,0)=0; shop(1,2,0)=0; stock(0,0,9)=0; stock(1,0,9)=0; person(0,0,0,0,0)=1
                state(0,5)=0; day A+; behind(0,5)=1; day A+AbA+; behind(0,5)=1; set(1,2)=1; behind(0,5)=0
                # both as worn as each other: 0 apart
                day A+; done()=1; shop(0,2,0)=1; day A+; done()=1; set(1,1)=2; state(0,2)=3; state(0,5)=0; day AbAa; behind(0,3)=2; behind(0,4)=2; behind(0,5)=0
                """);
        SCRIPT.play("LIMPS: WEAR of two shoes K or more apart, K 9", """
                set(1,9)=3; road(0,1,8,0)=0; shop(0,1,0)=0; shop(1,2,0)=0; stock(0,0,9)=0; stock(1,0,9)=0; person(0,0,0,0,0)=1
                day A+AbA+; behind(0,3)=8; behind(0,4)=0; behind(0,5)=0; set(1,8)=9; behind(0,5)=1; set(1,9)=8; road(0,1,9,0)=8; behind(0,5)=1
                # the right may be the older one
                shop(0,2,0)=1; shop(1,1,0)=2; behind(0,3)=0; behind(0,4)=9; behind(0,5)=1; road(0,1,8,0)=9; behind(0,5)=0
                """);
        SCRIPT.play("LIMPS: with just one shoe, a left or a right; on bare feet it does not", ROW + "stock(1,2,9)=1; state(0,5)=0; day AbA+; behind(0,5)=1; day AbAcA+; behind(0,5)=1; day AbA+A-; behind(0,5)=0");
    }

    private static void signs() {
        SCRIPT.play("9 say: codes 33 to 126", "say(32)=OUTSIDE; say(0)=OUTSIDE; say(-1)=OUTSIDE; say(-2147483648)=OUTSIDE; told(0)=0; say(33)=1; say(126)=2; say(127)=OUTSIDE; say(128)=OUTSIDE; say(2147483647)=OUTSIDE; told(0)=2");
        SCRIPT.play("9 say: 60 SIGNS at most, each one more", fullPad() + "told(0)=60; say(65)=FULL; say(33)=FULL; say(126)=FULL; told(0)=60; fault()=NONE; wipe()=60; say(65)=1");
        SCRIPT.play("9 say: 59 SIGNS are not full", "day " + "A-".repeat(29) + "A; told(0)=59; say(45)=60; say(45)=FULL");
        SCRIPT.play("9 say: OUTSIDE goes before FULL", fullPad() + "say(32)=OUTSIDE; say(127)=OUTSIDE; say(-1)=OUTSIDE; told(0)=60");
        SCRIPT.play("9 say: any sign of these may be said, also one that can not stand there", "say(33)=1; say(64)=2; say(91)=3; say(126)=4; fault()=0");
        SCRIPT.play("10 wipe: nothing there", "wipe()=0; wipe()=0; told(0)=0");
        SCRIPT.play("10 wipe: how many there were; then there are none", "say(65)=1; wipe()=1; wipe()=0; told(0)=0; fault()=NONE; say(65)=1; say(45)=2; wipe()=2; " + fullPad() + "wipe()=60; told(0)=0; wipe()=0");
        SCRIPT.play("10 wipe: SIGNS alone go", ROW + "seen(0,0)=1; day Ab; wipe()=2; told(2)=1; told(5)=1; told(111)=2; told(202)=1");
    }

    private static String fullPad() {
        return "day " + "A-".repeat(30) + "; ";
    }

    private static void faults() {
        SCRIPT.play("11 fault: an empty PAD has none", "fault()=NONE; judge(0)=NONE; done()=0");
        SCRIPT.play("11 fault: more must come: the number of signs", "day A; fault()=1; day A-B; fault()=3; day ?; fault()=1; day " + "A-".repeat(29) + "A; fault()=59");
        SCRIPT.play("11 fault: A to D, not @ nor E", "day A-; fault()=NONE; day D-; fault()=NONE; day E-; fault()=0; say(45)=3; day @-; fault()=0; day A-E-; fault()=2; day a-; fault()=0; day --; fault()=0; day +-; fault()=0");
        SCRIPT.play("11 fault: a to f, not ` nor g", "towns(6)=4; day Aa; fault()=NONE; day Af; fault()=NONE; day Ag; fault()=1; day A`; fault()=1");
        SCRIPT.play("11 fault: a letter of a TOWN that there is not", """
                day Ad; fault()=NONE; day Ae; fault()=1; day Af; fault()=1; towns(2)=4; day Ab; fault()=NONE; day Ac; fault()=1
                towns(3)=2; fault()=NONE; day Ad; fault()=1; towns(5)=3; day Ae; fault()=NONE; day Af; fault()=1
                """);
        SCRIPT.play("11 fault: + and -, not the signs beside them", "day A+; fault()=NONE; day A-; fault()=NONE; day A*; fault()=1; day A,; fault()=1; day A.; fault()=1");
        SCRIPT.play("11 fault: ? is who, not what; not the signs beside it", "day ?-; fault()=NONE; day A?; fault()=1; day ??; fault()=1; day >-; fault()=0; day @-; fault()=0");
        SCRIPT.play("11 fault: 3 of ? at most", "day ?-?-?-; fault()=NONE; filled(-1)=0; day ?-?-?-?; fault()=6; say(45)=8; fault()=6; day ?-A-?-A-?-A-?-; fault()=12; day ?-?-?-A-; fault()=NONE");
        SCRIPT.play("11 fault: the first of several", "day E-Ag; fault()=0; day AgE-; fault()=1; day A-AgE; fault()=3; day ?-?-?-Ag?-; fault()=7; day ?-?-?-?g; fault()=6");
        SCRIPT.play("11 fault: the last of 60 SIGNS", "day " + "A-".repeat(29) + "Ae; fault()=59; towns(5)=4; fault()=NONE");
        SCRIPT.play("11 fault: whether STEPS can be is nothing to it", "day Dd; fault()=NONE; judge(0)=0; judge(1)=1");
    }
}
