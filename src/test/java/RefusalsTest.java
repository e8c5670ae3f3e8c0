import java.util.ArrayList;
import java.util.Arrays;
import java.util.List;

/**
 * Each call with each number that is as told at its edges and each one beside them, all together
 * with all: the refusal is the first that fits, in the order that the document tells, and a
 * refused call changes nothing.
 */
public final class RefusalsTest {
    private static final int FINE = 0;

    /** The first of these that fits. */
    private static final List<Integer> ORDER =
            List.of(OddShoes.UNKNOWN, OddShoes.OUTSIDE, OddShoes.NO, OddShoes.STATE, OddShoes.FULL);

    private static final int LEAST = Integer.MIN_VALUE;
    private static final int MOST = Integer.MAX_VALUE;

    private static final String FULL_PAD = "A-".repeat(30);

    private static final Script SCRIPT = new Script();

    /** Calls of a kind may be tried in several standings: each has another pad or more sights. */
    private static String pad = "";
    private static int sights = 2;

    private RefusalsTest() {
    }

    public static void main(String[] args) {
        towns();
        days();
        ways();
        prices();
        tracks();
        SCRIPT.end();
    }

    /** Some numbers that go together, and what is answered for them: FINE or a refusal. */
    private record Case(int refusal, int... numbers) {
    }

    private static Case[] among(int refusal, int least, int most) {
        return new Case[] {new Case(FINE, least), new Case(FINE, most), new Case(refusal, least - 1),
            new Case(refusal, most + 1), new Case(refusal, LEAST), new Case(refusal, MOST)};
    }

    private static Case[] town() {
        return among(OddShoes.UNKNOWN, 0, 3);
    }

    private static Case[] size() {
        return among(OddShoes.UNKNOWN, 0, 4);
    }

    private static Case[] what(int most) {
        return among(OddShoes.OUTSIDE, 0, most);
    }

    private static Case[] anyIndex() {
        return new Case[] {new Case(FINE, -1), new Case(FINE, 0), new Case(FINE, -2), new Case(FINE, LEAST), new Case(FINE, MOST)};
    }

    /** Of the standing: A and D are there. */
    private static Case[] whoIsThere() {
        int no = OddShoes.UNKNOWN;
        return new Case[] {new Case(FINE, 0), new Case(FINE, 3), new Case(no, 1), new Case(no, 2),
            new Case(no, -1), new Case(no, 4), new Case(no, LEAST), new Case(no, MOST)};
    }

    private static Case[] twoTowns() {
        List<Case> all = new ArrayList<>();
        int[] numbers = {0, 1, 3, -1, 4, LEAST, MOST};
        for (int one : numbers) {
            for (int other : numbers) {
                boolean are = one >= 0 && one < 4 && other >= 0 && other < 4 && one != other;
                all.add(new Case(are ? FINE : OddShoes.UNKNOWN, one, other));
            }
        }
        return all.toArray(new Case[0]);
    }

    private static void towns() {
        pad = "AbA+";
        sights = 2;
        all("towns", FINE, among(OddShoes.OUTSIDE, 2, 6));
        all("road", FINE, twoTowns(), what(9), what(2));
        all("shop", FINE, town(), what(2), what(20));
        all("stock", FINE, town(), size(), what(9));
        all("person", FINE, among(OddShoes.UNKNOWN, 0, 3), town(), size(), size(), what(99));
        all("leave", FINE, whoIsThere());
        all("set", FINE, new Case[] {new Case(FINE, 0, 0), new Case(FINE, 0, 9), new Case(FINE, 1, 1), new Case(FINE, 1, 9),
            new Case(OddShoes.OUTSIDE, 0, -1), new Case(OddShoes.OUTSIDE, 0, 10), new Case(OddShoes.OUTSIDE, 1, 0),
            new Case(OddShoes.OUTSIDE, 1, 10), new Case(OddShoes.OUTSIDE, 2, 1), new Case(OddShoes.OUTSIDE, -1, 1),
            new Case(OddShoes.OUTSIDE, LEAST, 1), new Case(OddShoes.OUTSIDE, MOST, 1), new Case(OddShoes.OUTSIDE, 0, LEAST),
            new Case(OddShoes.OUTSIDE, 1, MOST)});
        all("say", FINE, among(OddShoes.OUTSIDE, 33, 126));
        all("wipe", FINE);
        all("fault", FINE);
        pad = FULL_PAD;
        all("say", OddShoes.FULL, among(OddShoes.OUTSIDE, 33, 126));
    }

    private static void days() {
        ofDay("", FINE, FINE);
        ofDay("AbA+", FINE, FINE);
        ofDay(FULL_PAD, FINE, FINE);
        ofDay("A", OddShoes.NO, OddShoes.NO);
        ofDay("Ae", OddShoes.NO, OddShoes.NO);
        ofDay("E", OddShoes.NO, OddShoes.NO);
        ofDay("?-A", OddShoes.NO, OddShoes.NO);
        ofDay("?-?-?-?-", OddShoes.NO, OddShoes.NO);
        ofDay("Bb?", OddShoes.NO, OddShoes.NO);
        ofDay("?-", OddShoes.STATE, OddShoes.STATE);
        ofDay("?-?-?-", OddShoes.STATE, OddShoes.STATE);
        ofDay("Bb?-", OddShoes.STATE, OddShoes.STATE);
        ofDay("Bb", FINE, OddShoes.NO);
        ofDay("AbA+Ab", FINE, OddShoes.NO);
        pad = "AbA+";
        all("state", FINE, whoIsThere(), what(6));
        all("trodden", FINE, existingRoads(), what(2));
    }

    /** What a text is refused with, and what a day that is to be played. */
    private static void ofDay(String text, int refusalOfText, int refusalOfDay) {
        pad = text;
        all("judge", refusalOfText, what(1));
        all("done", refusalOfDay);
        all("behind", refusalOfDay, whoIsThere(), what(6));
        all("givesOut", refusalOfDay, among(OddShoes.OUTSIDE, 1, 99), what(2));
        all("filled", refusalOfText == OddShoes.NO ? OddShoes.NO : FINE, anyIndex());
    }

    /** Of the standing: a to b, b to c; none elsewhere. */
    private static Case[] existingRoads() {
        Case[] all = twoTowns();
        for (int i = 0; i < all.length; i++) {
            int[] numbers = all[i].numbers();
            boolean isRoad = Math.abs(numbers[0] - numbers[1]) == 1 && numbers[0] + numbers[1] <= 3;
            if (all[i].refusal() == FINE && !isRoad) {
                all[i] = new Case(OddShoes.STATE, numbers);
            }
        }
        return all;
    }

    private static void ways() {
        pad = "AbA+";
        all("far", FINE, town(), town(), what(1));
        all("way", FINE, whoIsThere(), town(), anyIndex());
        all("shod", FINE, whoIsThere(), what(3));
        all("round", FINE, whoIsThere(), what(15), anyIndex());
        int out = OddShoes.OUTSIDE;
        Case[] sets = {new Case(FINE, 1), new Case(FINE, 8), new Case(FINE, 9), new Case(out, 0), new Case(out, 2), new Case(out, 3),
            new Case(out, 15), new Case(out, 16), new Case(out, 25), new Case(out, -1), new Case(out, LEAST), new Case(out, MOST), new Case(out, LEAST + 1)};
        all("together", FINE, sets, town(), town(), what(2));
        all("parted", FINE, twoTowns(), what(1));
    }

    private static void prices() {
        all("pairs", FINE, twoTowns(), what(4), what(1));
        all("rests", FINE, anyIndex());
        all("owner", FINE, what(1));
    }

    private static void tracks() {
        all("track", FINE, what(6), what(6), what(2));
        sights = 0;
        all("seen", FINE, among(OddShoes.UNKNOWN, 0, 3), town());
        all("forget", FINE);
        sights = 5;
        all("seen", FINE, among(OddShoes.UNKNOWN, 0, 3), town());
        sights = 6;
        all("seen", OddShoes.FULL, among(OddShoes.UNKNOWN, 0, 3), town());
        all("forget", FINE);
        sights = 2;
        all("spy", FINE, what(1));
        all("shut", FINE, whoIsThere(), what(10), what(1));
        all("year", FINE, what(9999), among(OddShoes.OUTSIDE, 1, 99), what(2));
        all("image", FINE, what(1));
        int out = OddShoes.OUTSIDE;
        all("restore", FINE, new Case[] {new Case(FINE, 0), new Case(OddShoes.STATE, 1), new Case(out, 2), new Case(out, -1),
            new Case(out, LEAST), new Case(out, MOST)});
        for (int what = -3; what < 800; what++) {
            all("told", FINE, new Case[] {new Case(isTold(what) ? FINE : out, what)});
        }
    }

    /** Of four towns. */
    private static boolean isTold(int what) {
        boolean isOfAll = what >= 0 && what <= 5 || what >= 10 && what <= 13 || what >= 20 && what <= 23;
        int town = what / 100 - 1;
        int rest = what % 100;
        boolean isStock = rest <= 4;
        boolean isRoad = (rest >= 10 && rest <= 13 || rest >= 20 && rest <= 23) && rest % 10 != town;
        return isOfAll || what >= 100 && town < 4 && (isStock || isRoad);
    }

    private static void all(String name, int standing, Case[]... slots) {
        int[] before = face(stand());
        combine(name, standing, new ArrayList<>(), slots, before);
    }

    private static void combine(String name, int standing, List<Case> chosen, Case[][] slots, int[] before) {
        if (chosen.size() == slots.length) {
            check(name, standing, chosen, before);
            return;
        }
        for (Case next : slots[chosen.size()]) {
            chosen.add(next);
            combine(name, standing, chosen, slots, before);
            chosen.remove(chosen.size() - 1);
        }
    }

    private static void check(String name, int standing, List<Case> chosen, int[] before) {
        int due = standing;
        List<Object> numbers = new ArrayList<>();
        for (Case one : chosen) {
            due = first(due, one.refusal());
            for (int number : one.numbers()) {
                numbers.add(number);
            }
        }
        OddShoes shoes = stand();
        long answer = Script.ask(shoes, name, numbers.toArray());
        String call = name + numbers + " with the pad " + pad + " answered " + answer;
        if (due == FINE) {
            SCRIPT.expect(call, answer >= 0 || answer == OddShoes.NONE);
            return;
        }
        long refusal = name.equals("shut") ? OddShoes.LOST + due : due;
        SCRIPT.expect(call + ", due is " + refusal, answer == refusal);
        SCRIPT.expect(call + " and changed something", Arrays.equals(before, face(shoes)));
    }

    private static int first(int one, int other) {
        if (one == FINE || other == FINE) {
            return one == FINE ? other : one;
        }
        return ORDER.indexOf(one) < ORDER.indexOf(other) ? one : other;
    }

    /** Where all calls are tried: something of everything that there is; image 1 is not kept. */
    private static OddShoes stand() {
        OddShoes x = new OddShoes();
        x.road(0, 1, 2, 0);
        x.road(1, 2, 3, 1);
        x.shop(1, 1, 4);
        x.shop(2, 2, 5);
        x.stock(1, 2, 3);
        x.stock(2, 2, 2);
        x.person(0, 0, 2, 2, 20);
        x.person(3, 1, 2, 4, 30);
        x.set(0, 2);
        x.set(1, 4);
        x.seen(0, 3);
        x.image(0);
        say(x, "AbAaDaDbD+");
        x.done();
        x.forget();
        for (int i = 0; i < sights; i++) {
            x.seen(i % 4, 1);
        }
        say(x, pad);
        return x;
    }

    private static void say(OddShoes x, String text) {
        for (char sign : text.toCharArray()) {
            x.say(sign);
        }
    }

    /** All that can be seen of an object, its image too; at most some 300 calls. */
    private static int[] face(OddShoes x) {
        List<Integer> seen = new ArrayList<>();
        seen.add(x.fault());
        seen.add(x.judge(0));
        seen.add(x.judge(1));
        for (int i = -1; i < 3; i++) {
            seen.add(x.filled(i));
        }
        for (int what = 0; what < 7; what++) {
            seen.add(x.behind(0, what));
        }
        addValley(x, seen);
        seen.add(x.restore(1));
        seen.add(x.restore(0));
        addValley(x, seen);
        return seen.stream().mapToInt(Integer::intValue).toArray();
    }

    private static void addValley(OddShoes x, List<Integer> seen) {
        for (int what = 0; what < 524; what++) {
            if (isTold(what)) {
                seen.add(x.told(what));
            }
        }
        for (int person = 0; person < 4; person++) {
            for (int what = 0; what < 7; what++) {
                seen.add(x.state(person, what));
            }
            seen.add(x.round(person, 0, -1));
        }
        for (int which = 0; which < 3; which++) {
            seen.add(x.trodden(0, 1, which));
            seen.add(x.trodden(1, 2, which));
        }
    }
}
