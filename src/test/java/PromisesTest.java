import java.util.function.LongSupplier;

/** Each promise by hand: ordinary inputs, the edges that the document names, and wrong inputs. */
public final class PromisesTest {
    private static final Class<?> INDEX = IndexOutOfBoundsException.class;
    private static final Class<?> ARGUMENT = IllegalArgumentException.class;
    private static final Class<?> STATE = IllegalStateException.class;
    private static final int NONE = AuditoriumKeys.NONE;
    private static final int FREE = AuditoriumKeys.FREE;
    private static final int HELD = AuditoriumKeys.HELD;
    private static final int SOLD = AuditoriumKeys.SOLD;
    private static final int OFFERED = AuditoriumKeys.OFFERED;
    private static final int LEAST = Integer.MIN_VALUE;
    private static final int MOST = Integer.MAX_VALUE;

    private static int wrong = 0;

    public static void main(String[] args) {
        newObject();
        passArguments();
        passLapses();
        timeIs();
        openings();
        codesAdded();
        usedSeats();
        joins();
        quits();
        queuePlaces();
        queueDraws();
        whoIsServed();
        holdArguments();
        holdCosts();
        holdOfServedAlone();
        holdOfOpenSeats();
        holdLeavesNoSingle();
        holdNeedsCode();
        holdWithinLimits();
        pays();
        payProlongs();
        letsGo();
        lapseMinutes();
        states();
        owners();
        ownersBySales();
        singles();
        firstOpenPlaces();
        offers();
        ceilings();
        retracts();
        spentCoins();
        takingsOfFreeSeats();
        System.out.println(wrong == 0 ? "all promises hold" : wrong + " answers are not as due");
        if (wrong != 0) {
            System.exit(1);
        }
    }

    private static void due(String call, long got, long want) {
        if (got != want) {
            wrong++;
            System.out.println(call + " answered " + got + ", due is " + want);
        }
    }

    private static void due(String call, boolean got, boolean want) {
        due(call, got ? 1 : 0, want ? 1 : 0);
    }

    /** The call has to throw just this, and to leave all that can be asked as it was. */
    private static void refused(String call, AuditoriumKeys x, Class<?> kind, LongSupplier asked) {
        String before = look(x);
        Class<?> thrown = null;
        long got = 0;
        try {
            got = asked.getAsLong();
        } catch (RuntimeException e) {
            thrown = e.getClass();
        }
        if (thrown != kind) {
            wrong++;
            System.out.println(call + (thrown == null ? " answered " + got : " threw " + thrown) + ", due is " + kind);
        }
        if (!look(x).equals(before)) {
            wrong++;
            System.out.println(call + " threw and changed something");
        }
    }

    private static String look(AuditoriumKeys x) {
        StringBuilder all = new StringBuilder();
        int opening = x.setOpening(0);
        x.setOpening(opening);
        all.append(x.time()).append(' ').append(opening).append(' ').append(x.served()).append(' ').append(x.takings());
        for (int place = 0; place < queueLength(x); place++) {
            all.append(" q").append(x.queueAt(place));
        }
        for (int person = 0; person < 8; person++) {
            all.append(" p").append(x.spent(person)).append(',').append(x.lapses(person));
            for (int code = 0; code < codeCount(x); code++) {
                all.append(',').append(x.used(code, person));
            }
        }
        for (int seat = 0; seat < 60; seat++) {
            all.append(" s").append(x.state(seat)).append(',').append(x.owner(seat)).append(',')
                .append(x.ownerBySales(seat)).append(',').append(x.isSingle(seat));
        }
        return all.toString();
    }

    private static int queueLength(AuditoriumKeys x) {
        int length = 0;
        try {
            while (length < 9) {
                x.queueAt(length);
                length++;
            }
        } catch (IndexOutOfBoundsException e) {
            return length;
        }
        return length;
    }

    private static int codeCount(AuditoriumKeys x) {
        int count = 0;
        try {
            while (count < 11) {
                x.used(count, 0);
                count++;
            }
        } catch (IndexOutOfBoundsException e) {
            return count;
        }
        return count;
    }

    private static AuditoriumKeys opened() {
        AuditoriumKeys x = new AuditoriumKeys();
        x.setOpening(0);
        return x;
    }

    /** Opened, with this person served. */
    private static AuditoriumKeys serving(int person) {
        AuditoriumKeys x = opened();
        serve(x, person);
        return x;
    }

    private static void serve(AuditoriumKeys x, int person) {
        x.join(person);
        x.pass(1);
    }

    private static int take(AuditoriumKeys x, int person, int seat, int many, int code) {
        serve(x, person);
        return x.hold(person, seat / 10, seat % 10, many, code);
    }

    private static void buy(AuditoriumKeys x, int person, int seat, int many) {
        int cost = take(x, person, seat, many, NONE);
        while (cost > 0) {
            cost = x.pay(person, Math.min(cost, 1000));
        }
    }

    // ---- Promise 1

    private static void newObject() {
        AuditoriumKeys x = new AuditoriumKeys();
        due("1 time", x.time(), 0);
        due("1 served", x.served(), NONE);
        due("1 takings", x.takings(), 0);
        due("1 queue", queueLength(x), 0);
        due("1 codes", codeCount(x), 0);
        for (int seat = 0; seat < 60; seat++) {
            due("1 state " + seat, x.state(seat), FREE);
            due("1 owner " + seat, x.owner(seat), NONE);
            due("1 ownerBySales " + seat, x.ownerBySales(seat), NONE);
            due("1 isSingle " + seat, x.isSingle(seat), false);
        }
        for (int person = 0; person < 8; person++) {
            due("1 spent " + person, x.spent(person), 0);
            due("1 lapses " + person, x.lapses(person), NONE);
        }
        for (int row = 0; row < 6; row++) {
            due("1 firstOpen " + row, x.firstOpen(row, 10), 0);
        }
        AuditoriumKeys other = new AuditoriumKeys();
        x.join(0);
        x.pass(3);
        x.code(1, 1);
        due("1 another object's time", other.time(), 0);
        due("1 another object's queue", queueLength(other), 0);
        due("1 another object's codes", codeCount(other), 0);
    }

    // ---- Promise 2

    private static void passArguments() {
        AuditoriumKeys x = new AuditoriumKeys();
        for (int minutes : new int[] {0, -1, 501, LEAST, MOST}) {
            refused("2 pass(" + minutes + ")", x, ARGUMENT, () -> x.pass(minutes));
        }
        due("2 pass(1)", x.pass(1), 0);
        for (int many = 0; many < 19; many++) {
            due("2 pass(500)", x.pass(500), 0);
        }
        due("2 pass(498)", x.pass(498), 0);
        due("2 time", x.time(), 9999);
        refused("2 pass(2) at 9999", x, STATE, () -> x.pass(2));
        due("2 pass(1) at 9999", x.pass(1), 0);
        due("2 time at the end", x.time(), 10000);
        refused("2 pass(1) at 10000", x, STATE, () -> x.pass(1));
        refused("2 pass(500) at 10000", x, STATE, () -> x.pass(500));
        refused("2 pass(501) at 10000", x, ARGUMENT, () -> x.pass(501));
        refused("2 pass(0) at 10000", x, ARGUMENT, () -> x.pass(0));
    }

    private static void passLapses() {
        AuditoriumKeys x = opened();
        x.join(0);
        x.join(1);
        x.join(2);
        x.pass(1);
        x.hold(0, 0, 0, 2, NONE);
        x.hold(2, 1, 0, 2, NONE);
        x.pass(1);
        x.hold(1, 2, 0, 2, NONE);
        due("2 ahead of the minute", x.pass(8), 0);
        due("2 still held", x.state(0), HELD);
        due("2 two lapse in their minute", x.pass(1), 2);
        due("2 gone", x.state(0), FREE);
        due("2 the later one stays", x.state(20), HELD);
        due("2 the later one lapses", x.pass(500), 1);
        due("2 none is left", x.pass(500), 0);

        AuditoriumKeys all = opened();
        for (int person = 0; person < 8; person++) {
            all.join(person);
        }
        all.pass(1);
        for (int many = 0; many < 8; many++) {
            all.hold(all.served(), many % 6, many < 6 ? 0 : 5, 2, NONE);
        }
        due("2 all eight lapse at once", all.pass(300), 8);
    }

    // ---- Promise 3

    private static void timeIs() {
        AuditoriumKeys x = new AuditoriumKeys();
        x.pass(7);
        due("3 time", x.time(), 7);
        x.pass(500);
        due("3 time", x.time(), 507);
        x.setOpening(3);
        x.join(1);
        due("3 time by other calls", x.time(), 507);
    }

    // ---- Promise 4

    private static void openings() {
        AuditoriumKeys x = new AuditoriumKeys();
        due("4 setOpening(0)", x.setOpening(0), 100);
        due("4 setOpening(10000)", x.setOpening(10000), 0);
        for (int minute : new int[] {-1, 10001, LEAST, MOST}) {
            refused("4 setOpening(" + minute + ")", x, ARGUMENT, () -> x.setOpening(minute));
        }
        due("4 setOpening(5)", x.setOpening(5), 10000);
        x.pass(4);
        x.join(0);
        due("4 setOpening again", x.setOpening(6), 5);
        x.pass(1);
        refused("4 at 5, ahead of 6", x, STATE, () -> x.hold(0, 0, 0, 2, NONE));
        x.setOpening(5);
        due("4 at 5, opening at 5", x.hold(0, 0, 0, 2, NONE), 200);
    }

    // ---- Promise 5

    private static void codesAdded() {
        AuditoriumKeys x = new AuditoriumKeys();
        due("5 code(1, 1)", x.code(1, 1), 0);
        due("5 code(10, 20)", x.code(10, 20), 1);
        due("5 code(10, 1)", x.code(10, 1), 2);
        for (int limit : new int[] {0, -1, 11, LEAST, MOST}) {
            refused("5 code(" + limit + ", 1)", x, ARGUMENT, () -> x.code(limit, 1));
        }
        for (int limit : new int[] {0, -1, 21, LEAST, MOST}) {
            refused("5 code(1, " + limit + ")", x, ARGUMENT, () -> x.code(1, limit));
        }
        for (int number = 3; number < 10; number++) {
            due("5 code", x.code(2, 3), number);
        }
        refused("5 an eleventh", x, STATE, () -> x.code(1, 1));
        refused("5 an eleventh out of range", x, ARGUMENT, () -> x.code(1, 21));
        refused("5 an eleventh out of range", x, ARGUMENT, () -> x.code(0, 1));
    }

    // ---- Promise 6

    private static void usedSeats() {
        AuditoriumKeys x = opened();
        refused("6 no code", x, INDEX, () -> x.used(0, 0));
        x.code(10, 20);
        x.code(10, 20);
        for (int number : new int[] {-1, 2, LEAST, MOST}) {
            refused("6 used(" + number + ", 0)", x, INDEX, () -> x.used(number, 0));
        }
        for (int person : new int[] {-1, 8, LEAST, MOST}) {
            refused("6 used(0, " + person + ")", x, INDEX, () -> x.used(0, person));
        }
        take(x, 0, 0, 3, 0);
        due("6 while the hold is there", x.used(0, 0), 3);
        due("6 another code", x.used(1, 0), 0);
        due("6 the other one of the household", x.used(0, 1), 0);
        x.letGo(0);
        due("6 let go", x.used(0, 0), 0);
        take(x, 0, 0, 3, 0);
        x.pass(10);
        due("6 lapsed", x.used(0, 0), 0);
        take(x, 0, 0, 3, 0);
        x.pay(0, 300);
        due("6 paid for", x.used(0, 0), 3);
        take(x, 0, 10, 2, 0);
        due("6 paid for and held", x.used(0, 0), 5);
        x.letGo(0);
        due("6 paid for alone", x.used(0, 0), 3);
        take(x, 0, 20, 2, NONE);
        due("6 a hold without a code", x.used(0, 0), 3);
        x.letGo(0);
        for (int seat = 0; seat < 3; seat++) {
            x.offer(0, seat, 100);
        }
        take(x, 7, 0, 3, 1);
        x.pay(7, 300);
        due("6 for good, whoever owns them", x.used(0, 0), 3);
        due("6 by the other code", x.used(1, 7), 3);
        due("6 not by the code of before", x.used(0, 7), 0);
    }

    // ---- Promise 7

    private static void joins() {
        AuditoriumKeys x = opened();
        for (int person : new int[] {-1, 8, LEAST, MOST}) {
            refused("7 join(" + person + ")", x, INDEX, () -> x.join(person));
        }
        for (int person = 0; person < 8; person++) {
            due("7 join " + person, x.join(person), person + 1);
        }
        for (int person = 0; person < 8; person++) {
            int again = person;
            refused("7 join again " + person, x, STATE, () -> x.join(again));
        }
        x.pass(1);
        int first = x.served();
        x.hold(first, 0, 0, 2, NONE);
        refused("7 with a hold", x, STATE, () -> x.join(first));
        x.pay(first, 1);
        refused("7 with a hold paid in part", x, STATE, () -> x.join(first));
        x.pay(first, 199);
        due("7 when it was paid for", x.join(first), 8);
        x.quit(first);
        due("7 after quit", x.join(first), 8);
        int second = x.served();
        x.hold(second, 1, 0, 2, NONE);
        x.letGo(second);
        due("7 when it was let go", x.join(second), 8);
        int third = x.served();
        x.hold(third, 1, 0, 2, NONE);
        x.pass(10);
        due("7 when it has lapsed", x.join(third), 8);
    }

    // ---- Promise 8

    private static void quits() {
        AuditoriumKeys x = opened();
        for (int person : new int[] {-1, 8, LEAST, MOST}) {
            refused("8 quit(" + person + ")", x, INDEX, () -> x.quit(person));
        }
        refused("8 quit of nobody in it", x, STATE, () -> x.quit(0));
        x.join(0);
        x.join(1);
        x.join(2);
        due("8 quit 1", x.quit(1), 2);
        refused("8 quit 1 again", x, STATE, () -> x.quit(1));
        due("8 first", x.queueAt(0), 0);
        due("8 second", x.queueAt(1), 2);
        x.pass(1);
        x.hold(0, 0, 0, 2, NONE);
        refused("8 left by the hold", x, STATE, () -> x.quit(0));
        due("8 quit 2", x.quit(2), 0);
        due("8 nobody is served", x.served(), NONE);
    }

    // ---- Promise 9

    private static void queuePlaces() {
        AuditoriumKeys x = new AuditoriumKeys();
        for (int place : new int[] {0, -1, 8, LEAST, MOST}) {
            refused("9 empty, queueAt(" + place + ")", x, INDEX, () -> x.queueAt(place));
        }
        x.join(7);
        x.pass(1);
        x.join(0);
        x.pass(1);
        x.join(3);
        due("9 the earliest", x.queueAt(0), 7);
        due("9 the next", x.queueAt(1), 0);
        due("9 the last", x.queueAt(2), 3);
        for (int place : new int[] {3, -1, 8, LEAST, MOST}) {
            refused("9 queueAt(" + place + ")", x, INDEX, () -> x.queueAt(place));
        }
        x.quit(7);
        due("9 the next is first", x.queueAt(0), 0);
        x.join(7);
        due("9 who came again stands with the last", x.queueAt(0), 0);
        refused("9 behind the last", x, INDEX, () -> x.queueAt(3));
    }

    private static void queueDraws() {
        for (int minute = 0; minute < 16; minute++) {
            for (int turn = 0; turn < 2; turn++) {
                AuditoriumKeys x = new AuditoriumKeys();
                if (minute > 0) {
                    x.pass(minute);
                }
                for (int many = 0; many < 8; many++) {
                    x.join(turn == 0 ? many : 7 - many);
                }
                for (int person = 0; person < 8; person++) {
                    int place = (5 * person + 3 * minute) % 8;
                    due("9 drawn at " + minute, x.queueAt(place), person);
                }
            }
        }
        AuditoriumKeys early = new AuditoriumKeys();
        early.join(3);
        early.pass(1);
        early.join(1);
        due("9 the earlier minute, with the draw 7", early.queueAt(0), 3);
        due("9 the later minute, with the draw 0", early.queueAt(1), 1);
    }

    // ---- Promise 10

    private static void whoIsServed() {
        AuditoriumKeys x = opened();
        due("10 nobody", x.served(), NONE);
        x.join(3);
        due("10 came in this minute", x.served(), NONE);
        x.join(1);
        x.pass(1);
        due("10 drawn first", x.served(), 1);
        x.join(0);
        due("10 who came now is not ahead", x.served(), 1);
        x.quit(1);
        due("10 the next", x.served(), 3);
        x.quit(3);
        due("10 who came now", x.served(), NONE);
        x.pass(1);
        due("10 a minute later", x.served(), 0);
        x.hold(0, 0, 0, 2, NONE);
        due("10 left by the hold", x.served(), NONE);
    }

    // ---- Promise 11

    private static void holdArguments() {
        AuditoriumKeys x = serving(0);
        x.code(10, 20);
        for (int bad : new int[] {-1, LEAST, MOST}) {
            refused("11 person " + bad, x, INDEX, () -> x.hold(bad, 0, 0, 2, NONE));
            refused("11 row " + bad, x, INDEX, () -> x.hold(0, bad, 0, 2, NONE));
            refused("11 place " + bad, x, INDEX, () -> x.hold(0, 0, bad, 2, NONE));
            refused("11 many " + bad, x, ARGUMENT, () -> x.hold(0, 0, 0, bad, NONE));
        }
        refused("11 person 8", x, INDEX, () -> x.hold(8, 0, 0, 2, NONE));
        refused("11 row 6", x, INDEX, () -> x.hold(0, 6, 0, 2, NONE));
        refused("11 place 10", x, INDEX, () -> x.hold(0, 0, 10, 2, NONE));
        for (int bad : new int[] {-2, 1, 10, LEAST, MOST}) {
            refused("11 code " + bad, x, INDEX, () -> x.hold(0, 0, 0, 2, bad));
        }
        refused("11 many 0", x, ARGUMENT, () -> x.hold(0, 0, 0, 0, NONE));
        refused("11 many 5", x, ARGUMENT, () -> x.hold(0, 0, 0, 5, NONE));
        for (int many = 2; many <= 4; many++) {
            int seats = many;
            refused("11 over the end by 1", x, ARGUMENT, () -> x.hold(0, 0, 11 - seats, seats, NONE));
        }
        refused("11 code ahead of many", x, INDEX, () -> x.hold(0, 0, 0, 0, 1));
        refused("11 place ahead of many", x, INDEX, () -> x.hold(0, 0, 10, 5, NONE));
        refused("11 person ahead of many", x, INDEX, () -> x.hold(8, 0, 0, 5, NONE));
        refused("11 many ahead of served", x, ARGUMENT, () -> x.hold(1, 0, 0, 5, NONE));
        refused("11 code ahead of served", x, INDEX, () -> x.hold(1, 0, 0, 2, 1));
        refused("11 row ahead of served", x, INDEX, () -> x.hold(1, 6, 0, 2, 0));
        due("11 up to the end", x.hold(0, 5, 6, 4, 0), 200);
    }

    private static void holdCosts() {
        for (int row = 0; row < 6; row++) {
            for (int many = 1; many <= 4; many++) {
                AuditoriumKeys x = serving(0);
                due("11 cost in row " + row, x.hold(0, row, 2, many, NONE), many * (100 - 10 * row));
                for (int place = 0; place < 10; place++) {
                    boolean in = place >= 2 && place < 2 + many;
                    due("11 held in row " + row, x.state(10 * row + place), in ? HELD : FREE);
                }
                due("11 lapses", x.lapses(0), 11);
                due("11 out of the queue", queueLength(x), 0);
                due("11 nothing spent", x.spent(0), 0);
            }
        }
        AuditoriumKeys x = opened();
        buy(x, 0, 30, 2);
        x.offer(0, 30, 5);
        x.offer(0, 31, 77);
        due("11 offered and free seats", take(x, 1, 30, 3, NONE), 5 + 77 + 70);
    }

    private static void holdOfServedAlone() {
        AuditoriumKeys x = opened();
        refused("11 not in the queue", x, STATE, () -> x.hold(0, 0, 0, 2, NONE));
        x.join(0);
        refused("11 came in this minute", x, STATE, () -> x.hold(0, 0, 0, 2, NONE));
        x.join(1);
        x.pass(1);
        refused("11 second in the queue", x, STATE, () -> x.hold(1, 0, 0, 2, NONE));
        due("11 first in the queue", x.hold(0, 0, 0, 2, NONE), 200);
        refused("11 with a hold", x, STATE, () -> x.hold(0, 1, 0, 2, NONE));
        due("11 the next one", x.hold(1, 1, 0, 2, NONE), 180);
    }

    private static void holdOfOpenSeats() {
        AuditoriumKeys x = opened();
        buy(x, 0, 4, 2);
        take(x, 1, 16, 2, NONE);
        serve(x, 2);
        refused("11 a SOLD seat first", x, STATE, () -> x.hold(2, 0, 5, 3, NONE));
        refused("11 a SOLD seat last", x, STATE, () -> x.hold(2, 0, 2, 3, NONE));
        refused("11 a HELD seat", x, STATE, () -> x.hold(2, 1, 5, 2, NONE));
        x.offer(0, 4, 100);
        x.offer(0, 5, 100);
        due("11 OFFERED seats", x.hold(2, 0, 4, 2, NONE), 200);
        serve(x, 3);
        refused("11 OFFERED seats that are HELD", x, STATE, () -> x.hold(3, 0, 4, 2, NONE));
        x.letGo(2);
        due("11 OFFERED again", x.hold(3, 0, 4, 2, NONE), 200);
        x.letGo(3);
        serve(x, 0);
        refused("11 own seats", x, STATE, () -> x.hold(0, 0, 4, 2, NONE));
        refused("11 an own seat last", x, STATE, () -> x.hold(0, 0, 2, 3, NONE));
        refused("11 an own seat first", x, STATE, () -> x.hold(0, 0, 5, 3, NONE));
        due("11 seats beside the own ones", x.hold(0, 0, 6, 2, NONE), 200);
    }

    private static void holdLeavesNoSingle() {
        AuditoriumKeys x = serving(0);
        refused("11 single at the row's beginning", x, STATE, () -> x.hold(0, 0, 1, 1, NONE));
        refused("11 single at the row's beginning", x, STATE, () -> x.hold(0, 0, 1, 4, NONE));
        refused("11 single at the row's end", x, STATE, () -> x.hold(0, 0, 8, 1, NONE));
        refused("11 single at the row's end", x, STATE, () -> x.hold(0, 0, 5, 4, NONE));
        due("11 two are left at the beginning", x.hold(0, 0, 2, 4, NONE), 400);
        serve(x, 1);
        refused("11 single behind a HELD one", x, STATE, () -> x.hold(1, 0, 7, 1, NONE));
        refused("11 single ahead of a HELD one", x, STATE, () -> x.hold(1, 0, 0, 1, NONE));
        due("11 none is left", x.hold(1, 0, 0, 2, NONE), 200);

        AuditoriumKeys rows = serving(0);
        due("11 the end of the row ahead does not count", rows.hold(0, 1, 0, 1, NONE), 90);
        due("11 its seat is not single", rows.isSingle(9), false);
        serve(rows, 1);
        due("11 nor the beginning of the next row", rows.hold(1, 0, 9, 1, NONE), 100);

        AuditoriumKeys was = opened();
        buy(was, 0, 0, 3);
        was.offer(0, 1, 100);
        due("11 single by an offer", was.isSingle(1), true);
        due("11 one that was single may stay so", take(was, 1, 3, 2, NONE), 200);
        due("11 it is single still", was.isSingle(1), true);
        due("11 a single one may be held", take(was, 2, 1, 1, NONE), 100);

        AuditoriumKeys ends = opened();
        due("11 all but the last of ten in a row", take(ends, 0, 0, 4, NONE), 400);
        due("11 two are left", take(ends, 1, 4, 4, NONE), 400);
        serve(ends, 2);
        refused("11 one of the last two", ends, STATE, () -> ends.hold(2, 0, 8, 1, NONE));
        refused("11 the other of the last two", ends, STATE, () -> ends.hold(2, 0, 9, 1, NONE));
        due("11 the last two", ends.hold(2, 0, 8, 2, NONE), 200);
    }

    private static void holdNeedsCode() {
        AuditoriumKeys x = new AuditoriumKeys();
        x.code(10, 20);
        x.join(0);
        x.join(1);
        x.pass(99);
        refused("11 at 99 without a code", x, STATE, () -> x.hold(0, 0, 0, 2, NONE));
        due("11 at 99 by a code", x.hold(0, 0, 0, 2, 0), 200);
        x.letGo(0);
        refused("11 the next at 99 without a code", x, STATE, () -> x.hold(1, 0, 0, 2, NONE));
        x.pass(1);
        due("11 at 100 without a code", x.hold(1, 0, 0, 2, NONE), 200);
        due("11 behind the opening by a code", take(x, 2, 10, 2, 0), 180);
        due("11 it counts", x.used(0, 2), 2);
    }

    private static void holdWithinLimits() {
        AuditoriumKeys x = opened();
        x.code(2, 3);
        serve(x, 0);
        refused("11 three of two for a person", x, STATE, () -> x.hold(0, 0, 0, 3, 0));
        due("11 two of two", x.hold(0, 0, 0, 2, 0), 200);
        serve(x, 1);
        refused("11 four of three for a household, one held", x, STATE, () -> x.hold(1, 1, 0, 2, 0));
        due("11 three of three for a household", x.hold(1, 1, 0, 1, 0), 90);
        due("11 another household", take(x, 2, 20, 2, 0), 160);
        x.letGo(1);
        x.pay(0, 200);
        serve(x, 0);
        refused("11 paid for, they count", x, STATE, () -> x.hold(0, 1, 0, 1, 0));
        due("11 without the code", x.hold(0, 1, 0, 2, NONE), 180);
        x.letGo(0);
        x.offer(0, 0, 50);
        x.offer(0, 1, 50);
        buy(x, 4, 0, 2);
        serve(x, 0);
        refused("11 sold again, they count", x, STATE, () -> x.hold(0, 1, 0, 1, 0));
        x.quit(0);
        x.letGo(2);
        serve(x, 1);
        refused("11 two more for the household", x, STATE, () -> x.hold(1, 1, 0, 2, 0));
        due("11 one more for the household", x.hold(1, 1, 0, 1, 0), 90);

        AuditoriumKeys wide = opened();
        wide.code(4, 2);
        wide.code(1, 20);
        serve(wide, 7);
        refused("11 the household's limit is lower", wide, STATE, () -> wide.hold(7, 0, 0, 3, 0));
        refused("11 the person's limit is lower", wide, STATE, () -> wide.hold(7, 0, 0, 2, 1));
        due("11 as many as the household's", wide.hold(7, 0, 0, 2, 0), 200);
        serve(wide, 6);
        refused("11 the household has all", wide, STATE, () -> wide.hold(6, 1, 0, 1, 0));
        due("11 the other code", wide.hold(6, 1, 0, 1, 1), 90);
        due("11 the neighbouring household", take(wide, 5, 20, 2, 0), 160);
    }

    // ---- Promise 12

    private static void pays() {
        AuditoriumKeys x = opened();
        for (int person : new int[] {-1, 8, LEAST, MOST}) {
            refused("12 pay of " + person, x, INDEX, () -> x.pay(person, 1));
        }
        refused("12 no person ahead of coins", x, INDEX, () -> x.pay(8, 0));
        refused("12 no hold", x, STATE, () -> x.pay(0, 1));
        refused("12 coins ahead of no hold", x, ARGUMENT, () -> x.pay(0, 0));
        take(x, 0, 0, 3, NONE);
        for (int coins : new int[] {0, -1, 1001, LEAST, MOST}) {
            refused("12 coins " + coins, x, ARGUMENT, () -> x.pay(0, coins));
        }
        refused("12 more than is left", x, STATE, () -> x.pay(0, 301));
        due("12 in part", x.pay(0, 1), 299);
        refused("12 more than is left then", x, STATE, () -> x.pay(0, 300));
        due("12 in part again", x.pay(0, 298), 1);
        due("12 HELD till all is paid", x.state(0), HELD);
        due("12 nobody owns it yet", x.owner(0), NONE);
        due("12 all that is left", x.pay(0, 1), 0);
        for (int seat = 0; seat < 3; seat++) {
            due("12 SOLD", x.state(seat), SOLD);
            due("12 owned", x.owner(seat), 0);
        }
        due("12 the seat beside", x.state(3), FREE);
        due("12 no hold any more", x.lapses(0), NONE);
        refused("12 paid for", x, STATE, () -> x.pay(0, 1));
        due("12 what was paid for does not lapse", x.pass(500), 0);
        due("12 SOLD for good", x.state(0), SOLD);
        take(x, 0, 10, 2, NONE);
        x.pay(0, 80);
        x.letGo(0);
        refused("12 let go", x, STATE, () -> x.pay(0, 1));
        take(x, 0, 10, 2, NONE);
        x.pay(0, 80);
        x.pass(15);
        refused("12 lapsed", x, STATE, () -> x.pay(0, 100));
        paysMuch();
    }

    /** A seat that is sold again and again, each time for its ceiling, until one payment cannot pay for it. */
    private static void paysMuch() {
        AuditoriumKeys x = opened();
        buy(x, 0, 0, 1);
        int owner = 0;
        int price = 100;
        while (price <= 1000) {
            int ceiling = price * 11 / 10;
            due("12 the ceiling goes up", x.offer(owner, 0, ceiling), ceiling);
            owner = 1 - owner;
            buy(x, owner, 0, 1);
            price = ceiling;
        }
        x.offer(owner, 0, price);
        int buyer = 1 - owner;
        due("12 a cost above 1000", take(x, buyer, 0, 1, NONE), price);
        due("12 the most coins", x.pay(buyer, 1000), price - 1000);
        due("12 the rest", x.pay(buyer, price - 1000), 0);
        due("12 owned", x.owner(0), buyer);
    }

    private static void payProlongs() {
        AuditoriumKeys x = opened();
        take(x, 0, 0, 4, NONE);
        int[] due = {16, 21, 26, 31, 31, 31};
        for (int minute : due) {
            x.pay(0, 1);
            due("12 prolonged", x.lapses(0), minute);
        }
        due("12 ahead of its latest minute", x.pass(29), 0);
        x.pay(0, 1);
        due("12 not beyond 30 minutes", x.lapses(0), 31);
        due("12 in its latest minute", x.pass(1), 1);
        due("12 all goes back", x.spent(0), 0);

        AuditoriumKeys late = opened();
        take(late, 0, 0, 4, NONE);
        late.pass(9);
        late.pay(0, 1);
        due("12 five later than before, not than now", late.lapses(0), 16);
        due("12 prolonged, it stays", late.pass(5), 0);
        due("12 prolonged, it lapses", late.pass(1), 1);
    }

    // ---- Promise 13

    private static void letsGo() {
        AuditoriumKeys x = opened();
        for (int person : new int[] {-1, 8, LEAST, MOST}) {
            refused("13 letGo(" + person + ")", x, INDEX, () -> x.letGo(person));
        }
        refused("13 no hold", x, STATE, () -> x.letGo(0));
        take(x, 0, 0, 2, NONE);
        due("13 nothing was paid", x.letGo(0), 0);
        refused("13 let go", x, STATE, () -> x.letGo(0));
        due("13 FREE again", x.state(0), FREE);
        take(x, 0, 0, 2, NONE);
        x.pay(0, 30);
        x.pay(0, 12);
        due("13 what was paid", x.letGo(0), 42);
        due("13 it came back", x.spent(0), 0);
        due("13 lapses", x.lapses(0), NONE);
        take(x, 0, 0, 2, NONE);
        due("13 a new one begins with nothing paid", x.letGo(0), 0);
        buy(x, 0, 0, 2);
        refused("13 paid for", x, STATE, () -> x.letGo(0));
        x.offer(0, 0, 33);
        x.offer(0, 1, 44);
        take(x, 1, 0, 2, NONE);
        x.letGo(1);
        due("13 OFFERED again", x.state(0), OFFERED);
        due("13 at its price", x.retract(0), 33);
        due("13 at its price", x.retract(1), 44);
        due("13 owned as before", x.owner(0), 0);
    }

    // ---- Promise 14

    private static void lapseMinutes() {
        AuditoriumKeys x = opened();
        for (int person : new int[] {-1, 8, LEAST, MOST}) {
            refused("14 lapses(" + person + ")", x, INDEX, () -> x.lapses(person));
        }
        due("14 none", x.lapses(3), NONE);
        x.pass(41);
        take(x, 3, 0, 2, NONE);
        due("14 ten minutes later", x.lapses(3), 52);
        due("14 another person", x.lapses(2), NONE);
        x.pass(4);
        due("14 as time passes", x.lapses(3), 52);
        x.pass(6);
        due("14 lapsed", x.lapses(3), NONE);

        AuditoriumKeys end = opened();
        for (int many = 0; many < 19; many++) {
            end.pass(500);
        }
        end.pass(494);
        take(end, 0, 0, 2, NONE);
        due("14 beyond the last minute", end.lapses(0), 10005);
        due("14 it does not lapse", end.pass(5), 0);
        due("14 it can be paid for", end.pay(0, 200), 0);
    }

    // ---- Promise 15

    private static void states() {
        AuditoriumKeys x = opened();
        for (int seat : new int[] {-1, 60, LEAST, MOST}) {
            refused("15 state(" + seat + ")", x, INDEX, () -> x.state(seat));
        }
        due("15 FREE", x.state(59), FREE);
        take(x, 0, 58, 2, NONE);
        due("15 HELD", x.state(59), HELD);
        due("15 the seat ahead", x.state(57), FREE);
        x.pay(0, 100);
        due("15 SOLD", x.state(59), SOLD);
        x.offer(0, 59, 7);
        due("15 OFFERED", x.state(59), OFFERED);
        due("15 the other one", x.state(58), SOLD);
        take(x, 1, 59, 1, NONE);
        due("15 OFFERED and HELD", x.state(59), HELD);
        x.pass(10);
        due("15 what it was, when it lapsed", x.state(59), OFFERED);
        buy(x, 1, 59, 1);
        due("15 sold again", x.state(59), SOLD);
    }

    // ---- Promise 16 and 17

    private static void owners() {
        AuditoriumKeys x = opened();
        for (int seat : new int[] {-1, 60, LEAST, MOST}) {
            refused("16 owner(" + seat + ")", x, INDEX, () -> x.owner(seat));
        }
        take(x, 0, 0, 2, NONE);
        due("16 HELD, never owned", x.owner(0), NONE);
        x.pay(0, 200);
        due("16 SOLD", x.owner(0), 0);
        due("16 SOLD", x.owner(1), 0);
        due("16 not SOLD", x.owner(2), NONE);
        x.offer(0, 1, 50);
        due("16 OFFERED", x.owner(1), 0);
        take(x, 5, 1, 1, NONE);
        due("16 HELD by another one", x.owner(1), 0);
        x.pay(5, 49);
        due("16 paid in part", x.owner(1), 0);
        x.pay(5, 1);
        due("16 sold again", x.owner(1), 5);
        due("16 the other seat", x.owner(0), 0);
    }

    private static void ownersBySales() {
        AuditoriumKeys x = opened();
        for (int seat : new int[] {-1, 60, LEAST, MOST}) {
            refused("17 ownerBySales(" + seat + ")", x, INDEX, () -> x.ownerBySales(seat));
        }
        take(x, 0, 3, 4, NONE);
        due("17 HELD", x.ownerBySales(3), NONE);
        x.pay(0, 400);
        int[] due = {NONE, NONE, NONE, 0, 0, 0, 0, NONE, NONE, NONE};
        for (int seat = 0; seat < 10; seat++) {
            due("17 seat " + seat, x.ownerBySales(seat), due[seat]);
        }
        x.offer(0, 4, 50);
        due("17 OFFERED", x.ownerBySales(4), 0);
        take(x, 5, 4, 1, NONE);
        due("17 HELD by another one", x.ownerBySales(4), 0);
        x.letGo(5);
        due("17 let go", x.ownerBySales(4), 0);
        buy(x, 5, 4, 1);
        due("17 sold again", x.ownerBySales(4), 5);
        due("17 the seat ahead", x.ownerBySales(3), 0);
        due("17 the seat behind", x.ownerBySales(5), 0);
        x.offer(5, 4, 55);
        buy(x, 0, 4, 1);
        due("17 sold a third time", x.ownerBySales(4), 0);
        mostSales();
    }

    /** A seat that two persons sell to each other for as long as an object is used. */
    private static void mostSales() {
        AuditoriumKeys x = opened();
        buy(x, 0, 0, 1);
        int owner = 0;
        for (int sale = 0; sale < 100; sale++) {
            x.offer(owner, 0, 1);
            owner = 1 - owner;
            buy(x, owner, 0, 1);
        }
        due("17 after a hundred sales and one", x.ownerBySales(0), 0);
        due("16 after a hundred sales and one", x.owner(0), 0);
    }

    // ---- Promise 18

    private static void singles() {
        AuditoriumKeys x = opened();
        for (int seat : new int[] {-1, 60, LEAST, MOST}) {
            refused("18 isSingle(" + seat + ")", x, INDEX, () -> x.isSingle(seat) ? 1 : 0);
        }
        buy(x, 0, 10, 4);
        for (int seat = 10; seat < 20; seat++) {
            due("18 none is single " + seat, x.isSingle(seat), false);
        }
        x.offer(0, 10, 5);
        due("18 at the row's beginning", x.isSingle(10), true);
        x.offer(0, 12, 5);
        due("18 between SOLD ones", x.isSingle(12), true);
        due("18 a SOLD one is not open", x.isSingle(11), false);
        x.offer(0, 11, 5);
        due("18 open beside it", x.isSingle(10), false);
        due("18 open on both sides", x.isSingle(11), false);
        x.retract(10);
        due("18 open behind it alone", x.isSingle(11), false);
        x.retract(12);
        due("18 nothing beside it", x.isSingle(11), true);
        take(x, 1, 11, 1, NONE);
        due("18 a HELD one is not open", x.isSingle(11), false);
        buy(x, 2, 16, 4);
        x.offer(2, 19, 5);
        due("18 at the row's end", x.isSingle(19), true);
        due("18 the next row's beginning beside it", x.state(20), FREE);
        due("18 two between SOLD ones", x.isSingle(14), false);
        due("18 two between SOLD ones", x.isSingle(15), false);
    }

    // ---- Promise 19

    private static void firstOpenPlaces() {
        AuditoriumKeys x = opened();
        for (int row : new int[] {-1, 6, LEAST, MOST}) {
            refused("19 row " + row, x, INDEX, () -> x.firstOpen(row, 1));
            refused("19 row ahead of many " + row, x, INDEX, () -> x.firstOpen(row, 0));
        }
        for (int many : new int[] {0, -1, 11, LEAST, MOST}) {
            refused("19 many " + many, x, ARGUMENT, () -> x.firstOpen(0, many));
        }
        take(x, 0, 32, 1, NONE);
        due("19 one", x.firstOpen(3, 1), 0);
        due("19 two", x.firstOpen(3, 2), 0);
        due("19 three", x.firstOpen(3, 3), 3);
        due("19 up to the end", x.firstOpen(3, 7), 3);
        due("19 too many", x.firstOpen(3, 8), NONE);
        due("19 another row", x.firstOpen(2, 10), 0);
        x.pay(0, 70);
        due("19 SOLD", x.firstOpen(3, 3), 3);
        x.offer(0, 32, 9);
        due("19 OFFERED", x.firstOpen(3, 10), 0);
        take(x, 1, 30, 4, NONE);
        take(x, 2, 34, 4, NONE);
        due("19 the last two", x.firstOpen(3, 2), 8);
        take(x, 3, 38, 2, NONE);
        due("19 none", x.firstOpen(3, 1), NONE);
    }

    // ---- Promise 20

    private static void offers() {
        AuditoriumKeys x = opened();
        buy(x, 0, 0, 2);
        for (int bad : new int[] {-1, 60, LEAST, MOST}) {
            refused("20 person " + bad, x, INDEX, () -> x.offer(bad, 0, 1));
            refused("20 seat " + bad, x, INDEX, () -> x.offer(0, bad, 1));
        }
        refused("20 person 8", x, INDEX, () -> x.offer(8, 0, 1));
        for (int price : new int[] {0, -1, 10001, LEAST, MOST}) {
            refused("20 price " + price, x, ARGUMENT, () -> x.offer(0, 0, price));
        }
        refused("20 seat ahead of price", x, INDEX, () -> x.offer(0, 60, 0));
        refused("20 price ahead of owner", x, ARGUMENT, () -> x.offer(1, 0, 0));
        refused("20 price ahead of FREE", x, ARGUMENT, () -> x.offer(0, 5, 10001));
        refused("20 FREE", x, STATE, () -> x.offer(0, 5, 1));
        refused("20 another one's", x, STATE, () -> x.offer(1, 0, 1));
        refused("20 above the ceiling", x, STATE, () -> x.offer(0, 0, 111));
        refused("20 the highest price", x, STATE, () -> x.offer(0, 0, 10000));
        due("20 at the ceiling", x.offer(0, 0, 110), 110);
        refused("20 OFFERED", x, STATE, () -> x.offer(0, 0, 110));
        due("20 the ceiling, not the price", x.offer(0, 1, 1), 110);
        take(x, 1, 0, 2, NONE);
        refused("20 HELD", x, STATE, () -> x.offer(0, 0, 1));
        refused("20 HELD by this one", x, STATE, () -> x.offer(1, 0, 1));
        x.pay(1, 111);
        refused("20 the owner of before", x, STATE, () -> x.offer(0, 0, 1));
        due("20 the new owner", x.offer(1, 0, 121), 121);
    }

    private static void ceilings() {
        for (int row = 0; row < 6; row++) {
            AuditoriumKeys x = opened();
            buy(x, 0, 10 * row, 1);
            int ceiling = (100 - 10 * row) * 11 / 10;
            int seat = 10 * row;
            refused("20 just above the ceiling", x, STATE, () -> x.offer(0, seat, ceiling + 1));
            due("20 the ceiling of row " + row, x.offer(0, seat, ceiling), ceiling);
        }
        AuditoriumKeys x = opened();
        buy(x, 0, 0, 1);
        x.offer(0, 0, 19);
        buy(x, 1, 0, 1);
        refused("20 rounded down", x, STATE, () -> x.offer(1, 0, 21));
        due("20 by what the owner has paid", x.offer(1, 0, 20), 20);
        x.retract(0);
        due("20 not by an offer of before", x.offer(1, 0, 9), 20);
        buy(x, 2, 0, 1);
        refused("20 no more than was paid", x, STATE, () -> x.offer(2, 0, 10));
        due("20 nine by eleven by ten", x.offer(2, 0, 9), 9);
    }

    // ---- Promise 21

    private static void retracts() {
        AuditoriumKeys x = opened();
        for (int seat : new int[] {-1, 60, LEAST, MOST}) {
            refused("21 retract(" + seat + ")", x, INDEX, () -> x.retract(seat));
        }
        refused("21 FREE", x, STATE, () -> x.retract(0));
        buy(x, 0, 0, 2);
        refused("21 SOLD", x, STATE, () -> x.retract(0));
        x.offer(0, 0, 12);
        due("21 its price", x.retract(0), 12);
        due("21 SOLD then", x.state(0), SOLD);
        due("21 owned still", x.owner(0), 0);
        refused("21 retracted", x, STATE, () -> x.retract(0));
        x.offer(0, 0, 34);
        due("21 the price of the last offer", x.retract(0), 34);
        x.offer(0, 0, 56);
        take(x, 1, 0, 1, NONE);
        refused("21 HELD", x, STATE, () -> x.retract(0));
        x.letGo(1);
        due("21 at the price as before", x.retract(0), 56);
    }

    // ---- Promise 22

    private static void spentCoins() {
        AuditoriumKeys x = opened();
        for (int person : new int[] {-1, 8, LEAST, MOST}) {
            refused("22 spent(" + person + ")", x, INDEX, () -> x.spent(person));
        }
        take(x, 0, 0, 2, NONE);
        x.pay(0, 120);
        due("22 in part", x.spent(0), 120);
        x.letGo(0);
        due("22 it came back", x.spent(0), 0);
        take(x, 0, 0, 2, NONE);
        x.pay(0, 7);
        x.pass(15);
        due("22 it came back as it lapsed", x.spent(0), 0);
        buy(x, 0, 0, 2);
        due("22 paid for", x.spent(0), 200);
        x.offer(0, 0, 110);
        x.offer(0, 1, 105);
        due("22 not by offers", x.spent(0), 200);
        take(x, 1, 0, 3, NONE);
        x.pay(1, 314);
        due("22 not before all was paid", x.spent(0), 200);
        due("22 the buyer's part", x.spent(1), 314);
        x.pay(1, 1);
        due("22 below 0", x.spent(0), -15);
        due("22 the buyer's all", x.spent(1), 315);
        due("22 the others", x.spent(2), 0);
        twoSellers();
    }

    private static void twoSellers() {
        AuditoriumKeys x = opened();
        buy(x, 0, 20, 2);
        buy(x, 1, 22, 2);
        x.offer(0, 21, 30);
        x.offer(1, 22, 40);
        buy(x, 2, 21, 2);
        due("22 the first seller", x.spent(0), 160 - 30);
        due("22 the second seller", x.spent(1), 160 - 40);
        due("22 their buyer", x.spent(2), 70);
        due("23 no takings by that", x.takings(), 320);
    }

    // ---- Promise 23

    private static void takingsOfFreeSeats() {
        AuditoriumKeys x = opened();
        take(x, 0, 0, 2, NONE);
        due("23 HELD", x.takings(), 0);
        x.pay(0, 199);
        due("23 paid in part", x.takings(), 0);
        x.pay(0, 1);
        due("23 paid for", x.takings(), 200);
        x.offer(0, 0, 110);
        x.offer(0, 1, 110);
        buy(x, 1, 0, 3);
        due("23 the FREE one alone", x.takings(), 300);
        take(x, 2, 50, 2, NONE);
        x.pay(2, 50);
        x.letGo(2);
        due("23 let go", x.takings(), 300);
        buy(x, 2, 50, 2);
        due("23 another row", x.takings(), 400);
    }
}
