/** Each sentence of the promises 1 to 23 that names a boundary case: just inside, just outside, and what is refused. */
public final class BoundariesOfPromisesTest {
    /** What is out of range for every argument of which no number below 0 is allowed. */
    private static final String[] FAR = {"MIN", "-2", "-1", "MAX"};

    public static void main(String[] args) {
        newObject();
        pass();
        time();
        setOpening();
        code();
        used();
        join();
        quit();
        queueAt();
        served();
        holdRanges();
        holdStates();
        pay();
        letGo();
        lapses();
        state();
        owner();
        ownerBySales();
        isSingle();
        firstOpen();
        offer();
        retract();
        spent();
        takings();
        Runs.end();
    }

    /** One row for each of these arguments, with the same answer. */
    private static String each(String call, String answer, String... arguments) {
        StringBuilder rows = new StringBuilder();
        for (String argument : arguments) {
            rows.append(call.replace("?", argument)).append(" -> ").append(answer).append('\n');
        }
        return rows.toString();
    }

    /** As each, for what is too low in every case and for these that are too high. */
    private static String outside(String call, String answer, String... tooHigh) {
        return each(call, answer, FAR) + each(call, answer, tooHigh);
    }

    private static String noPerson(String call) {
        return outside(call, "IndexOutOfBounds", "8", "9");
    }

    private static String noSeat(String call) {
        return outside(call, "IndexOutOfBounds", "60", "61");
    }

    // ---- Promise 1

    private static void newObject() {
        String promise = "Promise 1: A new object";
        Runs.of(promise, "Begins at the minute 0", """
            time() -> 0; served() -> NONE; queueAt(0) -> IndexOutOfBounds; join(3) -> 1; join(0) -> 2; queueAt(0) -> 0
            queueAt(1) -> 3; served() -> NONE; pass(1) -> 0; time() -> 1; served() -> 0
            """);
        StringBuilder free = new StringBuilder();
        for (int row = 0; row < 6; row++) {
            free.append("firstOpen(").append(row).append(", 10) -> 0\n");
        }
        for (int seat = 0; seat < 60; seat++) {
            free.append("state(").append(seat).append(") -> FREE; owner(").append(seat).append(") -> NONE; ownerBySales(")
                .append(seat).append(") -> NONE; isSingle(").append(seat).append(") -> false\n");
        }
        Runs.of(promise, "with all seats FREE", free.toString());
        Runs.of(promise, "A new object: nothing was paid, nobody has a hold, there is no code", """
            takings() -> 0; spent(0) -> 0; spent(7) -> 0; lapses(0) -> NONE; lapses(7) -> NONE
            used(0, 0) -> IndexOutOfBounds; letGo(0) -> IllegalState; letGo(7) -> IllegalState; quit(0) -> IllegalState
            quit(7) -> IllegalState; retract(0) -> IllegalState; pay(0, 1) -> IllegalState; code(1, 1) -> 0
            """);
    }

    // ---- Promise 2

    private static void pass() {
        String promise = "Promise 2: pass";
        Runs.of(promise, "`minutes`: 1 to 500", """
            pass(1) -> 0; time() -> 1; pass(500) -> 0; time() -> 501; pass(2) -> 0; pass(499) -> 0; time() -> 1002
            """);
        Runs.of(promise, "Throws `IllegalArgumentException` if minutes is out of range",
            each("pass(?)", "IllegalArgument", "0", "501", "502", "-1", "MIN", "MAX") + "time() -> 0\n"
            + "20 x pass(500)\n" + each("pass(?)", "IllegalArgument", "0", "501", "-1", "MIN", "MAX") + "time() -> 10000");
        Runs.of(promise, "Throws `IllegalStateException` if the time would be above 10000", """
            19 x pass(500) -> 0; pass(1) -> 0; pass(500) -> IllegalState; time() -> 9501; pass(499) -> 0; time() -> 10000
            pass(1) -> IllegalState; pass(500) -> IllegalState; time() -> 10000
            """);
        Runs.of(promise, "Throws `IllegalStateException` if the time would be above 10000: by one", """
            19 x pass(500) -> 0; pass(498) -> 0; pass(3) -> IllegalState; pass(2) -> 0; time() -> 10000
            """);
        String lapse = "Returns how many holds lapse by that";
        Runs.opened(promise, lapse, """
            join(0); join(5); join(2); pass(1); hold(0, 0, 0, 2, NONE); hold(5, 1, 0, 2, NONE); pass(1)
            hold(2, 2, 0, 2, NONE); pass(8) -> 0; pass(1) -> 2; pass(1) -> 1; pass(1) -> 0
            """);
        Runs.opened(promise, lapse + ": none that was paid for or let go, and one that was prolonged later", """
            join(0); join(5); join(2); join(7); pass(1); hold(0, 0, 0, 2, NONE); hold(5, 1, 0, 2, NONE)
            hold(2, 2, 0, 2, NONE); hold(7, 3, 0, 2, NONE); pay(0, 200); letGo(5); pay(2, 1)
            pass(9) -> 0; pass(1) -> 1; lapses(7) -> NONE; pass(4) -> 0; pass(1) -> 1; pass(500) -> 0
            """);
        StringBuilder eight = new StringBuilder();
        int[] order = {0, 5, 2, 7, 4, 1, 6, 3};
        for (int person : order) {
            eight.append("join(").append(person).append(")\n");
        }
        eight.append("pass(1) -> 0\n");
        for (int i = 0; i < 8; i++) {
            eight.append("hold(" + order[i] + ", " + i % 6 + ", " + i / 6 * 4 + ", 4, NONE)\n");
        }
        Runs.opened(promise, lapse + ": of all persons", eight + "pass(9) -> 0; pass(1) -> 8; pass(10) -> 0");
        Runs.opened(promise, lapse + ": of all persons, by the longest", eight + "pass(500) -> 8; pass(500) -> 0");
    }

    // ---- Promise 3

    private static void time() {
        Runs.of("Promise 3: time", "Returns the time", """
            time() -> 0; pass(1); time() -> 1; time() -> 1; pass(0) -> IllegalArgument; time() -> 1; pass(500); time() -> 501
            setOpening(7); join(0); code(1, 1); time() -> 501; 18 x pass(500); pass(499); time() -> 10000
            pass(1) -> IllegalState; time() -> 10000
            """);
    }

    // ---- Promise 4

    private static void setOpening() {
        String promise = "Promise 4: setOpening";
        Runs.of(promise, "`minute`: 0 to 10000", """
            setOpening(0) -> 100; setOpening(10000) -> 0; setOpening(1) -> 10000; setOpening(9999) -> 1
            setOpening(100) -> 9999
            """);
        Runs.of(promise, "Throws `IllegalArgumentException` if minute is out of range",
            each("setOpening(?)", "IllegalArgument", "-1", "10001", "10002", "MIN", "MAX") + "setOpening(5) -> 100\n"
            + each("setOpening(?)", "IllegalArgument", "-1", "10001") + "setOpening(5) -> 5");
        Runs.of(promise, "Returns the one before", """
            setOpening(100) -> 100; setOpening(3) -> 100; pass(500); setOpening(3) -> 3; setOpening(0) -> 3
            setOpening(-1) -> IllegalArgument; setOpening(0) -> 0
            """);
        Runs.of(promise, "Sets the minute of opening", """
            join(0); join(5); pass(41); setOpening(42); hold(0, 0, 0, 2, NONE) -> IllegalState; setOpening(41) -> 42
            hold(0, 0, 0, 2, NONE) -> 200; setOpening(42) -> 41; hold(5, 1, 0, 2, NONE) -> IllegalState
            pass(1); hold(5, 1, 0, 2, NONE) -> 180
            """);
    }

    // ---- Promise 5

    private static void code() {
        String promise = "Promise 5: code";
        Runs.of(promise, "`ofPerson`: 1 to 10: the limit for each person", "code(1, 20) -> 0; code(10, 20) -> 1; "
            + "code(2, 20) -> 2; code(9, 20) -> 3");
        Runs.of(promise, "`ofHousehold`: 1 to 20: the limit for each household", "code(10, 1) -> 0; code(10, 20) -> 1; "
            + "code(10, 2) -> 2; code(10, 19) -> 3; code(1, 1) -> 4");
        Runs.of(promise, "Throws `IllegalArgumentException` if a limit is out of range",
            each("code(?, 20)", "IllegalArgument", "0", "11", "12", "20", "-1", "MIN", "MAX")
            + each("code(10, ?)", "IllegalArgument", "0", "21", "22", "-1", "MIN", "MAX")
            + "code(0, 21) -> IllegalArgument; code(11, 0) -> IllegalArgument; code(1, 1) -> 0");
        Runs.of(promise, "Throws `IllegalStateException` if there are 10", """
            9 x code(10, 20); code(10, 20) -> 9; code(10, 20) -> IllegalState; code(1, 1) -> IllegalState; used(9, 0) -> 0
            used(10, 0) -> IndexOutOfBounds
            """);
        Runs.of(promise, "Returns its number, from 0 on", """
            code(1, 1) -> 0; code(0, 1) -> IllegalArgument; code(1, 1) -> 1; code(1, 21) -> IllegalArgument; code(3, 4) -> 2
            code(1, 1) -> 3; code(1, 1) -> 4; code(1, 1) -> 5; code(1, 1) -> 6; code(1, 1) -> 7; code(1, 1) -> 8
            code(1, 1) -> 9
            """);
        Runs.opened(promise, "Adds a code: the limits of the one before stay", """
            code(1, 20) -> 0; code(10, 20) -> 1; code(10, 1) -> 2; serve(0); hold(0, 0, 0, 2, 0) -> IllegalState
            hold(0, 0, 0, 2, 2) -> IllegalState; hold(0, 0, 0, 2, 1) -> 200; letGo(0); take(0, 0, 0, 1, 0) -> 100
            """);
    }

    // ---- Promise 6

    private static void used() {
        String promise = "Promise 6: used";
        Runs.opened(promise, "Returns how many seats count for a code, for a person", """
            code(10, 20); code(10, 20); used(0, 0) -> 0; take(0, 0, 0, 4, 0); used(0, 0) -> 4; used(1, 0) -> 0
            used(0, 1) -> 0; letGo(0); used(0, 0) -> 0; take(0, 0, 0, 4, 0); pay(0, 400); used(0, 0) -> 4
            take(0, 0, 4, 4, 0); pay(0, 400); used(0, 0) -> 8; take(0, 1, 0, 2, 0); used(0, 0) -> 10; pass(9) -> 0
            used(0, 0) -> 10; pass(1) -> 1; used(0, 0) -> 8
            take(7, 5, 6, 4, 1); used(1, 7) -> 4; used(0, 7) -> 0; used(1, 6) -> 0; used(1, 0) -> 0
            """);
        Runs.opened(promise, "throws IndexOutOfBoundsException: no such code", "used(0, 0) -> IndexOutOfBounds; "
            + "code(1, 1); used(0, 0) -> 0\n" + outside("used(?, 0)", "IndexOutOfBounds", "1", "2", "10") + "code(1, 1)\n"
            + "used(1, 0) -> 0; used(2, 0) -> IndexOutOfBounds; 8 x code(1, 1); used(9, 7) -> 0; "
            + "used(10, 7) -> IndexOutOfBounds");
        Runs.opened(promise, "throws IndexOutOfBoundsException: no such person", "code(1, 1); used(0, 0) -> 0; "
            + "used(0, 7) -> 0\n" + noPerson("used(0, ?)") + "used(1, 8) -> IndexOutOfBounds; 9 x code(1, 1)\n"
            + "used(8, 8) -> IndexOutOfBounds; used(1, -1) -> IndexOutOfBounds; used(9, 8) -> IndexOutOfBounds");
    }

    // ---- Promise 7

    private static void join() {
        String promise = "Promise 7: join";
        Runs.opened(promise, "Returns how many are in it then", """
            join(0) -> 1; join(7) -> 2; join(3) -> 3; quit(7) -> 2; join(7) -> 3; pass(1); hold(0, 0, 0, 2, NONE)
            join(1) -> 3; join(2) -> 4; join(4) -> 5; join(5) -> 6; join(6) -> 7; letGo(0); join(0) -> 8
            """);
        Runs.opened(promise, "Lets a person come to the queue, in the minute of now", """
            pass(7); join(0) -> 1; served() -> NONE; pass(1); served() -> 0; join(5); queueAt(0) -> 0; queueAt(1) -> 5
            quit(0); served() -> NONE; join(0); served() -> NONE; pass(1); served() -> 0; queueAt(1) -> 5
            """);
        Runs.opened(promise, "Throws `IndexOutOfBoundsException` if there is no such person", noPerson("join(?)")
            + "join(0) -> 1; join(7) -> 2\n" + noPerson("join(?)") + "queueAt(2) -> IndexOutOfBounds");
        Runs.opened(promise, "Throws `IllegalStateException` if the person is in it", """
            join(0) -> 1; join(0) -> IllegalState; join(7) -> 2; join(7) -> IllegalState; pass(1); join(0) -> IllegalState
            pass(500); join(0) -> IllegalState; served() -> 0; quit(0) -> 1; join(0) -> 2; join(0) -> IllegalState
            """);
        Runs.opened(promise, "Throws `IllegalStateException` if the person ... has a hold", """
            take(0, 0, 0, 2, NONE); join(0) -> IllegalState; join(1) -> 1; pay(0, 199) -> 1; join(0) -> IllegalState
            pass(14) -> 0; join(0) -> IllegalState; pass(1) -> 1; join(0) -> 2; quit(1); pass(1)
            hold(0, 0, 0, 2, NONE); letGo(0); join(0) -> 1; pass(1); hold(0, 0, 0, 2, NONE); pay(0, 200) -> 0; join(0) -> 1
            """);
    }

    // ---- Promise 8

    private static void quit() {
        String promise = "Promise 8: quit";
        Runs.opened(promise, "Returns how many are in it then", """
            join(0); join(1); join(2); join(3); join(4); join(5); join(6); join(7) -> 8; quit(0) -> 7; quit(7) -> 6
            quit(1) -> 5; quit(6) -> 4; quit(2) -> 3; quit(5) -> 2; quit(3) -> 1; quit(4) -> 0; join(4) -> 1; quit(4) -> 0
            """);
        Runs.opened(promise, "Lets a person leave the queue", """
            join(0); join(5); join(2); quit(5) -> 2; queueAt(0) -> 0; queueAt(1) -> 2; queueAt(2) -> IndexOutOfBounds
            pass(1); served() -> 0; quit(0); served() -> 2; hold(0, 0, 0, 2, NONE) -> IllegalState; quit(2) -> 0
            served() -> NONE; queueAt(0) -> IndexOutOfBounds
            """);
        Runs.opened(promise, "Throws `IndexOutOfBoundsException` if there is no such person", noPerson("quit(?)")
            + "join(0); join(7)\n" + noPerson("quit(?)") + "quit(7) -> 1; quit(0) -> 0");
        Runs.opened(promise, "Throws `IllegalStateException` if the person is not in it", """
            quit(0) -> IllegalState; quit(7) -> IllegalState; join(0); quit(1) -> IllegalState; quit(0) -> 0
            quit(0) -> IllegalState; join(0); pass(1); hold(0, 0, 0, 2, NONE); quit(0) -> IllegalState; pass(10) -> 1
            quit(0) -> IllegalState
            """);
    }

    // ---- Promise 9

    private static void queueAt() {
        String promise = "Promise 9: queueAt";
        Runs.opened(promise, "`place`: 0 for the first one", """
            join(3); pass(1); join(0); join(1); pass(1); join(7)
            queueAt(0) -> 3; queueAt(1) -> 1; queueAt(2) -> 0; queueAt(3) -> 7; quit(3); queueAt(0) -> 1; queueAt(2) -> 7
            """);
        Runs.opened(promise, "throws IndexOutOfBoundsException: no such place in the queue",
            outside("queueAt(?)", "IndexOutOfBounds", "0", "1", "7", "8") + "join(7) -> 1; queueAt(0) -> 7\n"
            + outside("queueAt(?)", "IndexOutOfBounds", "1", "2", "7", "8")
            + "join(0); join(1); join(2); join(3); join(4); join(5); join(6) -> 8; queueAt(7) -> 3\n"
            + outside("queueAt(?)", "IndexOutOfBounds", "8", "9") + "quit(3) -> 7; queueAt(6) -> 6; "
            + "queueAt(7) -> IndexOutOfBounds");
    }

    // ---- Promise 10

    private static void served() {
        String promise = "Promise 10: served";
        Runs.opened(promise, "NONE if nobody is", """
            served() -> NONE; join(0); served() -> NONE; pass(1); served() -> 0; quit(0); served() -> NONE
            join(0); pass(1); hold(0, 0, 0, 2, NONE); served() -> NONE; pass(10) -> 1; served() -> NONE
            """);
        Runs.opened(promise, "Returns who is served", """
            join(7); join(0); pass(1); join(1); served() -> 0; served() -> 0; hold(0, 0, 0, 2, NONE); served() -> 7
            hold(7, 1, 0, 2, NONE); served() -> NONE; pass(1); served() -> 1; pass(500); served() -> 1
            """);
        Runs.opened(promise, "Returns who is served: in the last minute", """
            19 x pass(500); pass(499); join(0); served() -> NONE; pass(1); served() -> 0; join(5); quit(0); served() -> NONE
            pass(1) -> IllegalState; served() -> NONE
            """);
    }

    // ---- Promise 11

    private static void holdRanges() {
        String promise = "Promise 11: hold";
        Runs.opened(promise, "Throws `IndexOutOfBoundsException` if there is no such person", "serve(0)\n"
            + noPerson("hold(?, 0, 0, 2, NONE)") + "hold(0, 0, 0, 2, NONE) -> 200; serve(7); hold(7, 1, 0, 2, NONE) -> 180");
        Runs.opened(promise, "Throws `IndexOutOfBoundsException` if there is no such ... row", "serve(0); serve(7)\n"
            + outside("hold(0, ?, 0, 2, NONE)", "IndexOutOfBounds", "6", "7")
            + "hold(0, 0, 0, 2, NONE) -> 200; hold(7, 5, 0, 2, NONE) -> 100");
        Runs.opened(promise, "Throws `IndexOutOfBoundsException` if there is no such ... place", "serve(0); serve(7)\n"
            + outside("hold(0, 0, ?, 1, NONE)", "IndexOutOfBounds", "10", "11")
            + outside("hold(0, 5, ?, 4, NONE)", "IndexOutOfBounds", "10", "11")
            + "hold(0, 0, 0, 1, NONE) -> 100; hold(7, 0, 9, 1, NONE) -> 100; state(0) -> HELD; state(9) -> HELD");
        Runs.opened(promise, "`place`: the first one of its places", """
            take(0, 2, 3, 3, NONE) -> 240; state(22) -> FREE; state(23) -> HELD; state(24) -> HELD; state(25) -> HELD
            state(26) -> FREE; state(13) -> FREE; state(33) -> FREE
            """);
        Runs.opened(promise, "Throws `IndexOutOfBoundsException` if there is no such ... code: `code`: a code, or NONE",
            "serve(0)\n" + each("hold(0, 0, 0, 2, ?)", "IndexOutOfBounds", "MIN", "-2", "0", "1", "9", "10", "MAX")
            + "hold(0, 0, 0, 2, NONE) -> 200; code(10, 20); serve(1)\n"
            + each("hold(1, 1, 0, 2, ?)", "IndexOutOfBounds", "MIN", "-2", "1", "9", "10", "MAX")
            + "hold(1, 1, 0, 2, 0) -> 180; 9 x code(10, 20); serve(2)\n"
            + each("hold(2, 2, 0, 2, ?)", "IndexOutOfBounds", "MIN", "-2", "10", "11", "MAX")
            + "hold(2, 2, 0, 2, 9) -> 160; used(9, 2) -> 2; used(0, 1) -> 2");
        String many = "`many`: 1 to 4, but not over the end of the row: how many seats";
        Runs.opened(promise, many, "serve(0)\n"
            + each("hold(0, 0, 0, ?, NONE)", "IllegalArgument", "MIN", "-1", "0", "5", "6", "10", "MAX")
            + each("hold(0, 5, 9, ?, NONE)", "IllegalArgument", "MIN", "-1", "0", "5", "MAX") + "hold(0, 0, 0, 1, NONE) -> 100");
        for (int seats = 1; seats <= 4; seats++) {
            String last = "hold(0, 5, " + (10 - seats) + ", " + seats + ", NONE) -> " + 50 * seats;
            String over = seats == 1 ? "" : "hold(0, 5, " + (11 - seats) + ", " + seats + ", NONE) -> IllegalArgument; "
                + "hold(0, 0, " + (11 - seats) + ", " + seats + ", NONE) -> IllegalArgument; ";
            Runs.opened(promise, many + ", " + seats, "serve(0); " + over + last + "; state(59) -> HELD; state("
                + (60 - seats) + ") -> HELD; state(" + (59 - seats) + ") -> FREE");
        }
        Runs.opened(promise, "Throws `IllegalArgumentException` if many is out of range", """
            code(10, 20); serve(0); hold(0, 0, 7, 4, 0) -> IllegalArgument; hold(0, 0, 6, 5, 0) -> IllegalArgument
            hold(0, 0, 9, 0, 0) -> IllegalArgument; served() -> 0; hold(0, 0, 6, 4, 0) -> 400
            """);
        Runs.opened(promise, "Returns its cost", """
            take(0, 0, 0, 1, NONE) -> 100; letGo(0); take(0, 0, 0, 4, NONE) -> 400; letGo(0); take(0, 5, 0, 1, NONE) -> 50
            pay(0, 51) -> IllegalState; pay(0, 50) -> 0; offer(0, 50, 55); take(1, 5, 0, 4, NONE) -> 205
            """);
    }

    private static void holdStates() {
        String promise = "Promise 11: hold";
        Runs.opened(promise, "Throws `IllegalStateException` if the person is not served", """
            hold(0, 0, 0, 2, NONE) -> IllegalState; join(0); hold(0, 0, 0, 2, NONE) -> IllegalState; join(5); pass(1)
            hold(5, 0, 0, 2, NONE) -> IllegalState; hold(0, 0, 0, 2, NONE) -> 200; hold(0, 0, 2, 2, NONE) -> IllegalState
            hold(5, 0, 2, 2, NONE) -> 200; letGo(5); hold(5, 0, 2, 2, NONE) -> IllegalState
            """);
        Runs.opened(promise, "Throws `IllegalStateException` if ... a seat is not open", """
            take(0, 0, 4, 2, NONE) -> 200; serve(1); hold(1, 0, 5, 2, NONE) -> IllegalState
            hold(1, 0, 3, 2, NONE) -> IllegalState; hold(1, 0, 4, 2, NONE) -> IllegalState; pay(0, 200) -> 0
            hold(1, 0, 5, 2, NONE) -> IllegalState; hold(1, 0, 3, 2, NONE) -> IllegalState; offer(0, 4, 1)
            hold(1, 0, 4, 2, NONE) -> IllegalState; offer(0, 5, 1); hold(1, 0, 4, 2, NONE) -> 2
            """);
        Runs.opened(promise, "Throws `IllegalStateException` if ... a seat ... is the person's own", """
            buy(0, 0, 4, 2); offer(0, 4, 1); offer(0, 5, 1); serve(0); hold(0, 0, 4, 2, NONE) -> IllegalState
            hold(0, 0, 2, 3, NONE) -> IllegalState; hold(0, 0, 5, 3, NONE) -> IllegalState; hold(0, 0, 2, 2, NONE) -> 200
            """);
        Runs.opened(promise, "Throws `IllegalStateException` if ... a seat would be single", """
            take(0, 0, 2, 4, NONE) -> 400; serve(1); hold(1, 0, 0, 1, NONE) -> IllegalState
            hold(1, 0, 1, 1, NONE) -> IllegalState; hold(1, 0, 7, 1, NONE) -> IllegalState
            hold(1, 0, 6, 3, NONE) -> IllegalState; hold(1, 0, 7, 3, NONE) -> IllegalState; hold(1, 0, 0, 2, NONE) -> 200
            serve(2); hold(2, 0, 7, 2, NONE) -> IllegalState; hold(2, 0, 8, 2, NONE) -> 200
            serve(3); hold(3, 0, 6, 1, NONE) -> IllegalState; hold(3, 0, 7, 1, NONE) -> IllegalState
            hold(3, 0, 6, 2, NONE) -> 200
            """);
        Runs.of(promise, "Throws `IllegalStateException` if ... a code is needed", """
            code(10, 20); join(0); join(5); pass(99); hold(0, 0, 0, 2, NONE) -> IllegalState; served() -> 0
            hold(0, 0, 0, 2, 0) -> 200; pass(1); hold(5, 1, 0, 2, NONE) -> 180
            """);
        Runs.opened(promise, "Throws `IllegalStateException` if ... a limit of it would be passed", """
            code(3, 4) -> 0; serve(0); hold(0, 0, 0, 4, 0) -> IllegalState; hold(0, 0, 0, 3, 0) -> 300; pay(0, 300)
            serve(0); hold(0, 1, 0, 1, 0) -> IllegalState; quit(0); serve(1); hold(1, 1, 0, 2, 0) -> IllegalState
            hold(1, 1, 0, 1, 0) -> 90; serve(2); hold(2, 2, 0, 4, 0) -> IllegalState; hold(2, 2, 0, 3, 0) -> 240
            """);
        Runs.opened(promise, "Throws `IllegalStateException` if ... a limit of it would be passed: needed or not", """
            code(1, 1) -> 0; serve(0); hold(0, 0, 0, 2, 0) -> IllegalState; setOpening(10000)
            hold(0, 0, 0, 2, 0) -> IllegalState; hold(0, 0, 0, 1, 0) -> 100
            """);
    }

    // ---- Promise 12

    private static void pay() {
        String promise = "Promise 12: pay";
        Runs.opened(promise, "`coins`: 1 to 1000", "take(0, 0, 0, 4, NONE) -> 400\n"
            + each("pay(0, ?)", "IllegalArgument", "MIN", "-1", "0", "1001", "1002", "MAX")
            + "pay(0, 1) -> 399; pay(0, 1000) -> IllegalState; pay(0, 399) -> 0");
        Runs.opened(promise, "Throws `IllegalArgumentException` if coins is out of range", """
            take(0, 0, 0, 4, NONE) -> 400; pay(0, 0) -> IllegalArgument; pay(0, 1001) -> IllegalArgument; spent(0) -> 0
            lapses(0) -> 11; pay(0, 1) -> 399; lapses(0) -> 16; pay(1, 0) -> IllegalArgument; pay(1, 1) -> IllegalState
            """);
        // A seat goes from one to another for its ceiling, till a hold of it costs more than a payment can be.
        StringBuilder dear = new StringBuilder("buy(0, 0, 0, 1)\n");
        int price = 100;
        int owner = 0;
        while (price <= 1000) {
            price = price * 11 / 10;
            dear.append("offer(" + owner + ", 0, " + price + ") -> " + price + "; ");
            owner = 1 - owner;
            dear.append("take(" + owner + ", 0, 0, 1, NONE) -> " + price + "\n");
            if (price <= 1000) {
                dear.append("pay(" + owner + ", " + price + ") -> 0\n");
            }
        }
        Runs.opened(promise, "`coins`: 1 to 1000: more than that is left", dear + "pay(" + owner + ", 1001) -> IllegalArgument; "
            + "pay(" + owner + ", 1000) -> " + (price - 1000) + "; pay(" + owner + ", " + (price - 999) + ") -> IllegalState; "
            + "pay(" + owner + ", " + (price - 1000) + ") -> 0; owner(0) -> " + owner);
        Runs.opened(promise, "Throws `IndexOutOfBoundsException` if there is no such person", noPerson("pay(?, 1)")
            + "take(0, 0, 0, 1, NONE); take(7, 1, 0, 1, NONE)\n" + noPerson("pay(?, 1)") + "pay(0, 1) -> 99; pay(7, 1) -> 89");
        Runs.opened(promise, "Throws `IllegalStateException` if the person has no hold", """
            pay(0, 1) -> IllegalState; join(0); pay(0, 1) -> IllegalState; pass(1); pay(0, 1) -> IllegalState
            hold(0, 0, 0, 2, NONE); pay(1, 1) -> IllegalState; pay(0, 200) -> 0; pay(0, 1) -> IllegalState
            take(0, 0, 2, 2, NONE); letGo(0); pay(0, 1) -> IllegalState; take(0, 0, 2, 2, NONE); pass(9); pay(0, 1) -> 199
            pass(5); pay(0, 1) -> 198; pass(5) -> 0; pass(1) -> 1; pay(0, 1) -> IllegalState
            """);
        Runs.opened(promise, "Throws `IllegalStateException` if ... less is left to be paid", """
            take(0, 0, 0, 2, NONE) -> 200; pay(0, 201) -> IllegalState; pay(0, 1) -> 199; pay(0, 200) -> IllegalState
            pay(0, 198) -> 1; pay(0, 2) -> IllegalState; lapses(0) -> 21; spent(0) -> 199; pay(0, 1) -> 0
            take(0, 0, 2, 2, NONE) -> 200; pay(0, 200) -> 0; spent(0) -> 400
            """);
        Runs.opened(promise, "Returns what is left to be paid; 0 if the seats are paid for by that", """
            take(0, 0, 0, 2, NONE) -> 200; pay(0, 1) -> 199; pay(0, 100) -> 99; pay(0, 98) -> 1; state(0) -> HELD
            owner(0) -> NONE; takings() -> 0; pay(0, 1) -> 0; state(0) -> SOLD; state(1) -> SOLD; owner(0) -> 0
            owner(1) -> 0; takings() -> 200; lapses(0) -> NONE; take(1, 1, 0, 2, NONE) -> 180; pay(1, 180) -> 0
            state(10) -> SOLD
            """);
        Runs.opened(promise, "Returns what is left to be paid: the least cost", """
            buy(0, 0, 0, 1); offer(0, 0, 1); take(1, 0, 0, 1, NONE) -> 1; pay(1, 2) -> IllegalState; pay(1, 1) -> 0
            owner(0) -> 1
            """);
        Runs.opened(promise, "Pays ...: the last payment while the hold is there", """
            take(0, 0, 0, 2, NONE); 5 x pay(0, 1); lapses(0) -> 31; pass(29) -> 0; pay(0, 195) -> 0; pass(1) -> 0
            state(0) -> SOLD; spent(0) -> 200
            """);
    }

    // ---- Promise 13

    private static void letGo() {
        String promise = "Promise 13: letGo";
        Runs.opened(promise, "Returns what goes back", """
            take(0, 0, 0, 2, NONE); letGo(0) -> 0; take(0, 0, 0, 2, NONE); pay(0, 1); letGo(0) -> 1; take(0, 0, 0, 2, NONE)
            pay(0, 100); pay(0, 99) -> 1; letGo(0) -> 199; spent(0) -> 0; takings() -> 0
            """);
        Runs.opened(promise, "Lets the hold of a person go", """
            take(0, 0, 0, 2, NONE); take(1, 1, 0, 2, NONE); letGo(0) -> 0; state(0) -> FREE; state(10) -> HELD
            lapses(0) -> NONE; lapses(1) -> 12; pass(9) -> 0; pass(1) -> 1
            """);
        Runs.opened(promise, "Throws `IndexOutOfBoundsException` if there is no such person", noPerson("letGo(?)")
            + "take(0, 0, 0, 2, NONE); take(7, 1, 0, 2, NONE)\n" + noPerson("letGo(?)") + "letGo(0) -> 0; letGo(7) -> 0");
        Runs.opened(promise, "Throws `IllegalStateException` if the person has no hold", """
            letGo(0) -> IllegalState; join(0); letGo(0) -> IllegalState; pass(1); letGo(0) -> IllegalState
            hold(0, 0, 0, 2, NONE); letGo(1) -> IllegalState; letGo(0) -> 0; letGo(0) -> IllegalState
            buy(0, 0, 0, 2); letGo(0) -> IllegalState; owner(0) -> 0; take(0, 1, 0, 2, NONE); pass(10) -> 1
            letGo(0) -> IllegalState
            """);
    }

    // ---- Promise 14

    private static void lapses() {
        String promise = "Promise 14: lapses";
        Runs.opened(promise, "NONE if there is none", """
            lapses(0) -> NONE; join(0); lapses(0) -> NONE; pass(1); lapses(0) -> NONE; hold(0, 0, 0, 2, NONE)
            lapses(0) -> 11; lapses(1) -> NONE; letGo(0); lapses(0) -> NONE; take(0, 0, 0, 2, NONE); pay(0, 199)
            lapses(0) -> 17; pay(0, 1); lapses(0) -> NONE; take(0, 1, 0, 2, NONE); pass(9); lapses(0) -> 13; pass(1)
            lapses(0) -> NONE
            """);
        Runs.opened(promise, "Returns the minute in which the hold of a person lapses", """
            pass(500); take(7, 0, 0, 2, NONE); time() -> 501; lapses(7) -> 511; pay(7, 1); lapses(7) -> 516; pass(14) -> 0
            lapses(7) -> 516; pass(1) -> 1; time() -> 516; lapses(7) -> NONE
            """);
        Runs.opened(promise, "Returns the minute in which the hold of a person lapses: the last minute", """
            19 x pass(500); pass(489); take(0, 0, 0, 2, NONE); lapses(0) -> 10000; pass(9) -> 0; state(0) -> HELD
            pass(1) -> 1; time() -> 10000; state(0) -> FREE
            """);
        Runs.opened(promise, "Returns the minute in which the hold of a person lapses: beyond the last minute", """
            19 x pass(500); pass(490); take(0, 0, 0, 2, NONE); time() -> 9991; lapses(0) -> 10001; pay(0, 1) -> 199
            lapses(0) -> 10006; pass(9) -> 0; time() -> 10000; lapses(0) -> 10006; state(0) -> HELD
            pass(1) -> IllegalState; state(0) -> HELD; pay(0, 199) -> 0; state(0) -> SOLD
            """);
        Runs.opened(promise, "throws IndexOutOfBoundsException: no such person", noPerson("lapses(?)")
            + "take(0, 0, 0, 2, NONE); take(7, 1, 0, 2, NONE); lapses(0) -> 11; lapses(7) -> 12\n" + noPerson("lapses(?)"));
    }

    // ---- Promise 15

    private static void state() {
        String promise = "Promise 15: state";
        Runs.opened(promise, "Returns what a seat is", """
            state(59) -> FREE; state(0) -> FREE; take(0, 5, 8, 2, NONE); state(59) -> HELD; state(58) -> HELD
            state(57) -> FREE; pay(0, 99) -> 1; state(59) -> HELD; pay(0, 1) -> 0; state(59) -> SOLD; offer(0, 59, 1)
            state(59) -> OFFERED; state(58) -> SOLD; take(1, 5, 9, 1, NONE); state(59) -> HELD; pass(10) -> 1
            state(59) -> OFFERED; retract(59); state(59) -> SOLD
            """);
        Runs.opened(promise, "throws IndexOutOfBoundsException: no such seat", "state(0) -> FREE; state(59) -> FREE\n"
            + noSeat("state(?)"));
    }

    // ---- Promise 16

    private static void owner() {
        String promise = "Promise 16: owner";
        Runs.opened(promise, "Returns who owns a seat, also while it is OFFERED, or HELD by another one", """
            buy(0, 0, 0, 2); owner(0) -> 0; offer(0, 0, 1); owner(0) -> 0; take(7, 0, 0, 1, NONE); owner(0) -> 0
            state(0) -> HELD; letGo(7); owner(0) -> 0; take(7, 0, 0, 1, NONE); pay(7, 1) -> 0; owner(0) -> 7; owner(1) -> 0
            """);
        Runs.opened(promise, "NONE if nobody does", """
            owner(0) -> NONE; owner(59) -> NONE; take(0, 0, 0, 2, NONE); owner(0) -> NONE; pay(0, 199) -> 1
            owner(0) -> NONE; pay(0, 1); owner(0) -> 0; owner(1) -> 0; owner(2) -> NONE; owner(10) -> NONE
            """);
        Runs.opened(promise, "throws IndexOutOfBoundsException: no such seat", "owner(0) -> NONE; owner(59) -> NONE\n"
            + noSeat("owner(?)") + "buy(0, 5, 8, 2); owner(59) -> 0; owner(60) -> IndexOutOfBounds");
    }

    // ---- Promise 17

    private static void ownerBySales() {
        String promise = "Promise 17: ownerBySales";
        Runs.opened(promise, "Returns the same, found from all sales, one after the other", """
            ownerBySales(0) -> NONE; take(0, 0, 3, 4, NONE); ownerBySales(3) -> NONE; pay(0, 399) -> 1
            ownerBySales(3) -> NONE; pay(0, 1) -> 0; ownerBySales(2) -> NONE; ownerBySales(3) -> 0; ownerBySales(6) -> 0
            ownerBySales(7) -> NONE; ownerBySales(13) -> NONE; offer(0, 3, 1); offer(0, 4, 1); ownerBySales(3) -> 0
            take(7, 0, 3, 2, NONE); ownerBySales(3) -> 0; letGo(7); ownerBySales(3) -> 0; buy(7, 0, 3, 2)
            ownerBySales(3) -> 7; ownerBySales(4) -> 7; ownerBySales(5) -> 0; offer(7, 4, 1); buy(0, 0, 4, 1)
            ownerBySales(3) -> 7; ownerBySales(4) -> 0; ownerBySales(5) -> 0
            """);
        Runs.opened(promise, "Returns the same: at both ends of the seats", """
            buy(0, 0, 0, 1); buy(7, 5, 8, 2); ownerBySales(0) -> 0; ownerBySales(1) -> NONE; ownerBySales(57) -> NONE
            ownerBySales(58) -> 7; ownerBySales(59) -> 7
            """);
        Runs.opened(promise, "throws IndexOutOfBoundsException: no such seat", "ownerBySales(0) -> NONE; "
            + "ownerBySales(59) -> NONE\n" + noSeat("ownerBySales(?)") + "buy(0, 5, 8, 2); buy(1, 0, 0, 1)\n"
            + noSeat("ownerBySales(?)"));
    }

    // ---- Promise 18

    private static void isSingle() {
        String promise = "Promise 18: isSingle";
        Runs.opened(promise, "Tells whether a seat is single", """
            buy(0, 0, 0, 3); buy(0, 0, 7, 3); isSingle(0) -> false; offer(0, 0, 1); isSingle(0) -> true; offer(0, 9, 1)
            isSingle(9) -> true; isSingle(8) -> false; isSingle(1) -> false; offer(0, 1, 1); isSingle(0) -> false
            isSingle(1) -> false; retract(0); isSingle(1) -> true; isSingle(0) -> false; isSingle(3) -> false
            take(1, 0, 1, 1, NONE); isSingle(1) -> false; isSingle(10) -> false; isSingle(19) -> false
            """);
        Runs.opened(promise, "throws IndexOutOfBoundsException: no such seat", "isSingle(0) -> false; "
            + "isSingle(59) -> false\n" + noSeat("isSingle(?)"));
    }

    // ---- Promise 19

    private static void firstOpen() {
        String promise = "Promise 19: firstOpen";
        Runs.opened(promise, "`many`: 1 to 10", "firstOpen(0, 1) -> 0; firstOpen(0, 10) -> 0; firstOpen(5, 10) -> 0; "
            + "take(0, 0, 0, 1, NONE); firstOpen(0, 10) -> NONE; firstOpen(0, 9) -> 1; firstOpen(0, 1) -> 1");
        Runs.opened(promise, "Throws `IllegalArgumentException` if many is out of range",
            each("firstOpen(0, ?)", "IllegalArgument", "MIN", "-1", "0", "11", "12", "MAX")
            + each("firstOpen(5, ?)", "IllegalArgument", "0", "11") + "firstOpen(5, 1) -> 0");
        Runs.opened(promise, "Throws `IndexOutOfBoundsException` if there is no such row",
            outside("firstOpen(?, 1)", "IndexOutOfBounds", "6", "7", "10") + "firstOpen(0, 1) -> 0; firstOpen(5, 1) -> 0");
        Runs.opened(promise, "Returns the place; NONE if there is none", """
            take(0, 0, 0, 4, NONE); take(1, 0, 6, 4, NONE); firstOpen(0, 1) -> 4; firstOpen(0, 2) -> 4
            firstOpen(0, 3) -> NONE; take(2, 0, 4, 2, NONE); firstOpen(0, 1) -> NONE; letGo(1); firstOpen(0, 4) -> 6
            firstOpen(0, 5) -> NONE; firstOpen(0, 1) -> 6; firstOpen(1, 10) -> 0
            """);
        Runs.opened(promise, "Returns the first place in a row from which so many seats side by side are open", """
            take(0, 1, 2, 1, NONE); firstOpen(1, 1) -> 0; firstOpen(1, 2) -> 0; firstOpen(1, 3) -> 3; firstOpen(1, 7) -> 3
            firstOpen(1, 8) -> NONE; pay(0, 90); firstOpen(1, 3) -> 3; firstOpen(1, 8) -> NONE; offer(0, 12, 1)
            firstOpen(1, 3) -> 0; firstOpen(1, 10) -> 0; firstOpen(0, 10) -> 0; firstOpen(2, 10) -> 0
            """);
    }

    // ---- Promise 20

    private static void offer() {
        String promise = "Promise 20: offer";
        Runs.opened(promise, "Offers a seat that is SOLD", """
            take(0, 0, 0, 2, NONE); offer(0, 0, 1) -> IllegalState; pay(0, 200); state(0) -> SOLD; offer(0, 0, 1) -> 110
            state(0) -> OFFERED; state(1) -> SOLD; take(1, 0, 0, 1, NONE) -> 1
            """);
        Runs.opened(promise, "`price`: 1 to 10000", "buy(0, 0, 0, 2)\n"
            + each("offer(0, 0, ?)", "IllegalArgument", "MIN", "-1", "0", "10001", "10002", "MAX")
            + "offer(0, 0, 10000) -> IllegalState; offer(0, 0, 9999) -> IllegalState; offer(0, 0, 1) -> 110; retract(0) -> 1");
        // A seat goes from one to another for its ceiling, till that is above the highest price.
        StringBuilder dear = new StringBuilder("buy(0, 0, 0, 1)\n");
        int price = 100;
        int owner = 0;
        while (price * 11 / 10 <= 10000) {
            price = price * 11 / 10;
            dear.append("offer(" + owner + ", 0, " + price + ") -> " + price + "; ");
            owner = 1 - owner;
            dear.append("buy(" + owner + ", 0, 0, 1) -> 0\n");
        }
        int ceiling = price * 11 / 10;
        Runs.opened(promise, "`price`: 1 to 10000: the highest one, below the ceiling", dear
            + "offer(" + owner + ", 0, 10000) -> " + ceiling + "; buy(" + (1 - owner) + ", 0, 0, 1) -> 0; owner(0) -> "
            + (1 - owner) + "; offer(" + (1 - owner) + ", 0, 10000) -> 11000; retract(0) -> 10000; takings() -> 100");
        Runs.opened(promise, "Throws `IllegalArgumentException` if price is out of range", """
            buy(0, 0, 0, 2); offer(0, 0, 0) -> IllegalArgument; offer(0, 0, 10001) -> IllegalArgument; state(0) -> SOLD
            offer(0, 5, 0) -> IllegalArgument; offer(1, 0, 10001) -> IllegalArgument; offer(0, 5, 10000) -> IllegalState
            offer(1, 0, 1) -> IllegalState
            """);
        Runs.opened(promise, "Throws `IndexOutOfBoundsException` if there is no such person", "buy(0, 0, 0, 2); "
            + "buy(7, 1, 0, 2)\n" + noPerson("offer(?, 0, 1)") + noPerson("offer(?, 5, 1)")
            + "offer(0, 0, 1) -> 110; offer(7, 10, 1) -> 99");
        Runs.opened(promise, "Throws `IndexOutOfBoundsException` if there is no such ... seat", "buy(0, 0, 0, 2); "
            + "buy(0, 5, 8, 2)\n" + noSeat("offer(0, ?, 1)") + "offer(0, 0, 1) -> 110; offer(0, 59, 1) -> 55");
        Runs.opened(promise, "Throws `IllegalStateException` if the seat is not SOLD", """
            offer(0, 0, 1) -> IllegalState; take(0, 0, 0, 2, NONE); offer(0, 0, 1) -> IllegalState; pay(0, 200)
            offer(0, 0, 1) -> 110; offer(0, 0, 1) -> IllegalState; offer(0, 0, 2) -> IllegalState
            take(1, 0, 0, 1, NONE) -> 1; offer(0, 0, 1) -> IllegalState; offer(1, 0, 1) -> IllegalState; letGo(1)
            retract(0) -> 1; offer(0, 0, 2) -> 110
            """);
        Runs.opened(promise, "Throws `IllegalStateException` if ... the person does not own it", """
            buy(0, 0, 0, 2); offer(1, 0, 1) -> IllegalState; offer(7, 1, 1) -> IllegalState; offer(0, 0, 1); buy(1, 0, 0, 1)
            offer(0, 0, 1) -> IllegalState; offer(1, 1, 1) -> IllegalState; offer(1, 0, 1) -> 1
            """);
        Runs.opened(promise, "Throws `IllegalStateException` if ... price is above its ceiling", """
            buy(0, 0, 0, 2); offer(0, 0, 111) -> IllegalState; offer(0, 0, 110) -> 110; retract(0) -> 110
            buy(1, 5, 0, 2); offer(1, 50, 56) -> IllegalState; offer(1, 50, 55) -> 55; buy(0, 5, 0, 1)
            offer(0, 50, 61) -> IllegalState; offer(0, 50, 60) -> 60
            """);
        Runs.opened(promise, "Returns its ceiling", """
            buy(0, 3, 0, 2); offer(0, 30, 1) -> 77; offer(0, 31, 77) -> 77; retract(30); offer(0, 30, 9) -> 77
            buy(1, 3, 0, 2); offer(1, 30, 1) -> 9; offer(1, 31, 1) -> 84
            """);
    }

    // ---- Promise 21

    private static void retract() {
        String promise = "Promise 21: retract";
        Runs.opened(promise, "Takes an offer back; the seat is SOLD then", """
            buy(0, 0, 0, 2); offer(0, 0, 1); offer(0, 1, 1); retract(0); state(0) -> SOLD; state(1) -> OFFERED
            owner(0) -> 0; spent(0) -> 200; serve(1); hold(1, 0, 0, 2, NONE) -> IllegalState; hold(1, 0, 1, 1, NONE) -> 1
            """);
        Runs.opened(promise, "Returns its price", """
            buy(0, 0, 0, 2); offer(0, 0, 1); retract(0) -> 1; offer(0, 0, 110); retract(0) -> 110; offer(0, 0, 2)
            offer(0, 1, 3); offer(0, 0, 4) -> IllegalState; retract(1) -> 3; retract(0) -> 2
            """);
        Runs.opened(promise, "Throws `IndexOutOfBoundsException` if there is no such seat", noSeat("retract(?)")
            + "buy(0, 0, 0, 2); buy(0, 5, 8, 2); offer(0, 0, 1); offer(0, 59, 1)\n" + noSeat("retract(?)")
            + "retract(0) -> 1; retract(59) -> 1");
        Runs.opened(promise, "Throws `IllegalStateException` if the seat is not OFFERED", """
            retract(0) -> IllegalState; take(0, 0, 0, 2, NONE); retract(0) -> IllegalState; pay(0, 200)
            retract(0) -> IllegalState; offer(0, 0, 9); retract(1) -> IllegalState; take(1, 0, 0, 1, NONE)
            retract(0) -> IllegalState; letGo(1); retract(0) -> 9; retract(0) -> IllegalState; offer(0, 0, 8)
            buy(1, 0, 0, 1); retract(0) -> IllegalState
            """);
    }

    // ---- Promise 22

    private static void spent() {
        String promise = "Promise 22: spent";
        Runs.opened(promise, "Returns what a person has paid, less what came back", """
            spent(0) -> 0; take(0, 0, 0, 2, NONE); spent(0) -> 0; pay(0, 1); spent(0) -> 1; pay(0, 198); spent(0) -> 199
            letGo(0) -> 199; spent(0) -> 0; take(0, 0, 0, 2, NONE); pay(0, 7); pass(14); spent(0) -> 7; pass(1) -> 1
            spent(0) -> 0; buy(0, 0, 0, 2); spent(0) -> 200; take(0, 1, 0, 2, NONE); pay(0, 5); spent(0) -> 205
            letGo(0) -> 5; spent(0) -> 200; pay(0, 1) -> IllegalState; spent(0) -> 200; spent(1) -> 0
            """);
        Runs.opened(promise, "and less what was paid to this person for seats; it can be below 0", """
            buy(0, 0, 0, 1); spent(0) -> 100; offer(0, 0, 100); buy(1, 0, 0, 1); spent(0) -> 0; spent(1) -> 100
            offer(1, 0, 110); take(0, 0, 0, 1, NONE); pay(0, 109) -> 1; spent(0) -> 109; spent(1) -> 100; pay(0, 1) -> 0
            spent(0) -> 110; spent(1) -> -10; offer(0, 0, 121); buy(1, 0, 0, 1); spent(0) -> -11; spent(1) -> 111
            """);
        Runs.opened(promise, "and less what was paid to this person for seats: not what was paid for FREE ones", """
            buy(0, 0, 0, 1); offer(0, 0, 110); take(1, 0, 0, 2, NONE) -> 210; pay(1, 209); spent(0) -> 100; pay(1, 1)
            spent(0) -> -10; spent(1) -> 210
            """);
        Runs.opened(promise, "throws IndexOutOfBoundsException: no such person", "spent(0) -> 0; spent(7) -> 0\n"
            + noPerson("spent(?)"));
    }

    // ---- Promise 23

    private static void takings() {
        String promise = "Promise 23: takings";
        Runs.opened(promise, "in all holds that were paid for", """
            takings() -> 0; take(0, 0, 0, 2, NONE); takings() -> 0; pay(0, 199) -> 1; takings() -> 0; letGo(0) -> 199
            takings() -> 0; take(0, 0, 0, 2, NONE); pay(0, 199) -> 1; pass(15) -> 1; takings() -> 0; buy(0, 0, 0, 2)
            takings() -> 200; buy(1, 5, 0, 4); takings() -> 400
            """);
        Runs.opened(promise, "Returns what was paid for seats that were FREE", """
            buy(0, 0, 0, 2); offer(0, 0, 110); offer(0, 1, 1); buy(1, 0, 0, 2); takings() -> 200; offer(1, 1, 1)
            buy(2, 0, 1, 3); takings() -> 400; offer(2, 1, 1); offer(2, 2, 9); buy(3, 0, 1, 2); takings() -> 400
            """);
        StringBuilder all = new StringBuilder();
        for (int row = 0; row < 6; row++) {
            for (int place = 0; place < 10; place += place == 8 ? 2 : 4) {
                all.append("buy(" + row + ", " + row + ", " + place + ", " + (place == 8 ? 2 : 4) + ")\n");
            }
        }
        Runs.opened(promise, "in all holds that were paid for: all seats", all + "takings() -> 4500; spent(0) -> 1000; "
            + "spent(5) -> 500; firstOpen(0, 1) -> NONE; firstOpen(5, 1) -> NONE");
    }
}
