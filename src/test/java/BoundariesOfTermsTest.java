import java.util.Arrays;

/** Each sentence of the document's Terms that names a boundary case: just inside, just outside, and what is refused. */
public final class BoundariesOfTermsTest {
    private static final int NONE = AuditoriumKeys.NONE;
    private static final String FACE = "The public face";
    private static final String USE = "What it is";
    private static final String NUMBERS = "Terms";
    private static final String SEATS = "Terms, Seats";
    private static final String QUEUE = "Terms, The queue";
    private static final String HOLDS = "Terms, Holds";
    private static final String CODES = "Terms, Codes";
    private static final String THROWN = "Terms, calls that throw";

    public static void main(String[] args) {
        constants();
        calls();
        persons();
        households();
        rowsAndPlaces();
        minutes();
        seatsAtFirst();
        seatsPaidFor();
        ceilings();
        offersPaidFor();
        openSeats();
        heldSeats();
        singleSeats();
        laterMinutes();
        sameMinute();
        firstServed();
        oneHold();
        oneToFourSeats();
        madeByTheServed();
        allOpen();
        noneOwn();
        noneLeftSingle();
        costAsItIs();
        tenMinutes();
        fiveMinutesLater();
        paidForAll();
        goneHolds();
        limits();
        neededCode();
        countedSeats();
        countedForGood();
        changesNothing();
        firstNamed();
        noSuch();
        Runs.end();
    }

    // ---- the face and the use

    private static void constants() {
        Runs.due(FACE, "NONE = -1", AuditoriumKeys.NONE, -1);
        Runs.due(FACE, "FREE = 0", AuditoriumKeys.FREE, 0);
        Runs.due(FACE, "HELD = 1", AuditoriumKeys.HELD, 1);
        Runs.due(FACE, "SOLD = 2", AuditoriumKeys.SOLD, 2);
        Runs.due(FACE, "OFFERED = 3", AuditoriumKeys.OFFERED, 3);
    }

    /** As many sales as the calls allow, eight in a minute, so that the last calls have them all to look through. */
    private static void calls() {
        String sentence = "An object is used for at most 512 calls after it has been made";
        AuditoriumKeys x = new AuditoriumKeys();
        int[] owners = new int[60];
        Arrays.fill(owners, NONE);
        x.setOpening(0);
        int calls = 1;
        int sales = 0;
        for (int minute = 0; calls + 9 + 8 * 3 + 2 <= 512; minute++) {
            for (int person = 0; person < 8; person++) {
                x.join(person);
            }
            x.pass(1);
            calls += 9;
            for (int draw = 0; draw < 8 && calls + 3 + 2 <= 512; draw++) {
                // 5 by 5 is 1 in remainders by 8, so that this is the person of the draw.
                int person = Math.floorMod(5 * (draw - 3 * minute), 8);
                calls += sales < 54 ? buyFree(x, owners, person, sales) : buyOffered(x, owners, person, sales);
                sales++;
            }
        }
        int last = (sales - 1) % 60;
        Runs.due(USE, sentence + ": they are enough for all these sales", sales > 130 ? 1 : 0, 1);
        Runs.due(USE, sentence + ": the owner, by the last call but one", x.owner(last), owners[last]);
        Runs.due(USE, sentence + ": the owner by sales, by the last call", x.ownerBySales(last), owners[last]);
        Runs.due(USE, sentence + ": the last call is not beyond them", calls + 2 <= 512 ? 1 : 0, 1);
        for (int seat = 0; seat < 60; seat++) {
            Runs.due(USE, sentence + ": the owner by sales, behind them all", x.ownerBySales(seat), owners[seat]);
        }
    }

    /** Nine holds in a row, the last one of two seats, as no seat may be left single. */
    private static int buyFree(AuditoriumKeys x, int[] owners, int person, int sale) {
        int row = sale / 9;
        int place = sale % 9;
        int many = place == 8 ? 2 : 1;
        x.pay(person, x.hold(person, row, place, many, NONE));
        for (int next = place; next < place + many; next++) {
            owners[10 * row + next] = person;
        }
        return 2;
    }

    private static int buyOffered(AuditoriumKeys x, int[] owners, int person, int sale) {
        int seat = sale % 60;
        if (owners[seat] == person) {
            x.quit(person);
            return 1;
        }
        x.offer(owners[seat], seat, 1);
        x.pay(person, x.hold(person, seat / 10, seat % 10, 1, NONE));
        owners[seat] = person;
        return 3;
    }

    // ---- numbers

    private static void persons() {
        String sentence = "Persons are numbered from 0 to 7";
        Runs.opened(NUMBERS, sentence, """
            code(10, 20) -> 0
            join(0) -> 1; join(7) -> 2; join(-1) -> IndexOutOfBounds; join(8) -> IndexOutOfBounds
            quit(0) -> 1; quit(7) -> 0; quit(-1) -> IndexOutOfBounds; quit(8) -> IndexOutOfBounds
            take(0, 0, 0, 2, 0) -> 200; take(7, 1, 0, 2, 0) -> 180
            hold(-1, 2, 0, 2, 0) -> IndexOutOfBounds; hold(8, 2, 0, 2, 0) -> IndexOutOfBounds
            used(0, 0) -> 2; used(0, 7) -> 2; used(0, -1) -> IndexOutOfBounds; used(0, 8) -> IndexOutOfBounds
            pay(0, 1) -> 199; pay(7, 1) -> 179; pay(-1, 1) -> IndexOutOfBounds; pay(8, 1) -> IndexOutOfBounds
            lapses(0) -> 16; lapses(7) -> 17; lapses(-1) -> IndexOutOfBounds; lapses(8) -> IndexOutOfBounds
            spent(0) -> 1; spent(7) -> 1; spent(-1) -> IndexOutOfBounds; spent(8) -> IndexOutOfBounds
            letGo(-1) -> IndexOutOfBounds; letGo(8) -> IndexOutOfBounds; letGo(0) -> 1; letGo(7) -> 1
            buy(0, 0, 0, 2) -> 0; buy(7, 1, 0, 2) -> 0
            offer(-1, 2, 1) -> IndexOutOfBounds; offer(8, 2, 1) -> IndexOutOfBounds
            offer(0, 0, 1) -> 110; offer(7, 10, 1) -> 99
            """);
    }

    private static void households() {
        String sentence = "the persons 0 and 1 are the household 0, 2 and 3 the household 1, and so on";
        for (int household = 0; household < 4; household++) {
            int one = 2 * household;
            int other = one + 1;
            int behind = (one + 2) % 8;
            int ahead = (one + 7) % 8;
            for (int turn = 0; turn < 2; turn++) {
                int first = turn == 0 ? one : other;
                int second = turn == 0 ? other : one;
                Runs.opened(NUMBERS, sentence + ", household " + household, ("code(10, 4) -> 0\n"
                    + "take(" + first + ", 0, 0, 3, 0) -> 300; join(" + second + "); pass(1)\n"
                    + "hold(" + second + ", 1, 0, 2, 0) -> IllegalState; hold(" + second + ", 1, 0, 1, 0) -> 90\n"
                    + "take(" + behind + ", 2, 0, 4, 0) -> 320; take(" + ahead + ", 3, 0, 4, 0) -> 280\n"));
            }
        }
    }

    private static void rowsAndPlaces() {
        Runs.opened(NUMBERS, "There are the rows 0 to 5 with the places 0 to 9", """
            serve(0); serve(1); serve(2); serve(3)
            hold(0, -1, 0, 2, NONE) -> IndexOutOfBounds; hold(0, 6, 0, 2, NONE) -> IndexOutOfBounds
            hold(0, 0, -1, 2, NONE) -> IndexOutOfBounds; hold(0, 0, 10, 1, NONE) -> IndexOutOfBounds
            hold(0, 5, -1, 1, NONE) -> IndexOutOfBounds; hold(0, 5, 10, 1, NONE) -> IndexOutOfBounds
            firstOpen(-1, 1) -> IndexOutOfBounds; firstOpen(6, 1) -> IndexOutOfBounds
            firstOpen(0, 10) -> 0; firstOpen(5, 10) -> 0
            hold(0, 0, 0, 1, NONE) -> 100; hold(1, 0, 9, 1, NONE) -> 100
            hold(2, 5, 0, 1, NONE) -> 50; hold(3, 5, 9, 1, NONE) -> 50
            """);
        Runs.opened(NUMBERS, "the seat at a place of a row is 10 times the row, and the place", """
            state(-1) -> IndexOutOfBounds; state(60) -> IndexOutOfBounds
            serve(0); serve(1); serve(2); serve(3)
            hold(0, 0, 0, 1, NONE) -> 100; hold(1, 0, 9, 1, NONE) -> 100
            hold(2, 1, 0, 1, NONE) -> 90; hold(3, 5, 9, 1, NONE) -> 50
            state(0) -> HELD; state(1) -> FREE; state(8) -> FREE; state(9) -> HELD; state(10) -> HELD; state(11) -> FREE
            state(58) -> FREE; state(59) -> HELD; state(50) -> FREE; state(5) -> FREE
            """);
    }

    private static void minutes() {
        Runs.of(NUMBERS, "The time is in minutes, from 0 on, at most 10000", """
            time() -> 0; 19 x pass(500) -> 0; time() -> 9500; pass(499) -> 0; time() -> 9999
            pass(2) -> IllegalState; time() -> 9999; pass(1) -> 0; time() -> 10000; pass(1) -> IllegalState
            time() -> 10000
            """);
    }

    // ---- seats

    private static void seatsAtFirst() {
        StringBuilder free = new StringBuilder();
        for (int seat = 0; seat < 60; seat++) {
            free.append("state(").append(seat).append(") -> FREE; owner(").append(seat).append(") -> NONE\n");
        }
        Runs.of(SEATS, "A seat is FREE at first", free.toString());
        String sentence = "it costs 100 less 10 times its row";
        for (int row = 0; row < 6; row++) {
            int coins = 100 - 10 * row;
            String at = "(0, " + row + ", ";
            Runs.opened(SEATS, sentence + ", row " + row, "take" + at + "0, 1, NONE) -> " + coins
                + "; pay(0, " + (coins + 1) + ") -> IllegalState; pay(0, " + coins + ") -> 0; takings() -> " + coins
                + "; take" + at + "9, 1, NONE) -> " + coins + "; letGo(0); take" + at + "4, 2, NONE) -> " + 2 * coins);
        }
    }

    private static void seatsPaidFor() {
        Runs.opened(SEATS, "When it was paid for, it is SOLD; a person owns it then", """
            take(3, 0, 0, 2, NONE) -> 200
            pay(3, 199) -> 1; state(0) -> HELD; state(1) -> HELD; owner(0) -> NONE; owner(1) -> NONE
            pay(3, 1) -> 0; state(0) -> SOLD; state(1) -> SOLD; owner(0) -> 3; owner(1) -> 3
            state(2) -> FREE; owner(2) -> NONE
            """);
    }

    private static void ceilings() {
        String sentence = "for at most its ceiling, that is what the owner has paid for it, times 11, divided by 10, "
            + "rounded down";
        int[][] ceilingOf = {{100, 110}, {91, 100}, {90, 99}, {89, 97}, {20, 22}, {19, 20}, {11, 12}, {10, 11}, {9, 9},
            {1, 1}};
        for (int[] each : ceilingOf) {
            int paid = each[0];
            int ceiling = each[1];
            Runs.opened(SEATS, sentence + ", paid " + paid, "buy(0, 0, 0, 2); offer(0, 0, " + paid
                + ") -> 110; buy(1, 0, 0, 1); spent(1) -> " + paid + "; offer(1, 0, " + (ceiling + 1)
                + ") -> IllegalState; state(0) -> SOLD; offer(1, 0, " + ceiling + ") -> " + ceiling
                + "; state(0) -> OFFERED");
        }
        for (int row = 0; row < 6; row++) {
            int ceiling = (100 - 10 * row) * 11 / 10;
            String seat = "offer(0, " + 10 * row + ", ";
            Runs.opened(SEATS, sentence + ", row " + row, "buy(0, " + row + ", 0, 2); " + seat + (ceiling + 1)
                + ") -> IllegalState; " + seat + ceiling + ") -> " + ceiling);
        }
        Runs.opened(SEATS, sentence + ", each seat of a hold by itself", """
            buy(0, 0, 0, 1); offer(0, 0, 7) -> 110; buy(1, 0, 0, 3)
            offer(1, 0, 8) -> IllegalState; offer(1, 0, 7) -> 7
            offer(1, 1, 111) -> IllegalState; offer(1, 1, 110) -> 110
            offer(1, 2, 111) -> IllegalState; offer(1, 2, 110) -> 110
            """);
        Runs.opened(SEATS, sentence + ", not by an offer that was taken back", """
            buy(0, 0, 0, 1); offer(0, 0, 1) -> 110; retract(0) -> 1; offer(0, 0, 111) -> IllegalState
            offer(0, 0, 110) -> 110; retract(0) -> 110; offer(0, 0, 121) -> IllegalState; offer(0, 0, 109) -> 110
            """);
        Runs.opened(SEATS, sentence + ", not by what another one has paid", """
            buy(0, 0, 0, 1); offer(0, 0, 50); take(1, 0, 0, 1, NONE) -> 50; pay(1, 49) -> 1; letGo(1) -> 49
            retract(0) -> 50; offer(0, 0, 111) -> IllegalState; offer(0, 0, 110) -> 110
            """);
        Runs.opened(SEATS, "Its owner can offer it for sale", """
            buy(0, 0, 0, 2); offer(1, 0, 1) -> IllegalState; offer(2, 0, 1) -> IllegalState; offer(0, 0, 1) -> 110
            buy(1, 0, 0, 1); offer(0, 0, 1) -> IllegalState; offer(1, 0, 1) -> 1; offer(1, 1, 1) -> IllegalState
            """);
    }

    private static void offersPaidFor() {
        String sentence = "it is OFFERED then, at that price, which the owner gets when all of a hold with the seat was "
            + "paid";
        Runs.opened(SEATS, sentence, """
            buy(0, 0, 0, 2); spent(0) -> 200; offer(0, 0, 33); state(0) -> OFFERED; state(1) -> SOLD; spent(0) -> 200
            take(1, 0, 0, 1, NONE) -> 33; spent(0) -> 200; pay(1, 32) -> 1; spent(0) -> 200; spent(1) -> 32
            pay(1, 1) -> 0; spent(0) -> 167; spent(1) -> 33
            """);
        Runs.opened(SEATS, sentence + ", not the price of the FREE seat beside it", """
            buy(0, 0, 0, 1); offer(0, 0, 33); take(1, 0, 0, 2, NONE) -> 133; pay(1, 132) -> 1; spent(0) -> 100
            pay(1, 1) -> 0; spent(0) -> 67; takings() -> 200
            """);
        Runs.opened(SEATS, sentence + ", nothing when the hold goes", """
            buy(0, 0, 0, 1); offer(0, 0, 33); take(1, 0, 0, 1, NONE) -> 33; pay(1, 32) -> 1; letGo(1) -> 32
            spent(0) -> 100; spent(1) -> 0; take(1, 0, 0, 1, NONE) -> 33; pay(1, 32) -> 1; pass(15) -> 1
            spent(0) -> 100; spent(1) -> 0; state(0) -> OFFERED
            """);
        Runs.opened(SEATS, sentence + ", two owners", """
            buy(0, 0, 0, 1); buy(2, 0, 1, 1); offer(0, 0, 10); offer(2, 1, 20)
            take(1, 0, 0, 2, NONE) -> 30; pay(1, 29) -> 1; spent(0) -> 100; spent(2) -> 100
            pay(1, 1) -> 0; spent(0) -> 90; spent(2) -> 80; spent(1) -> 30
            """);
    }

    private static void openSeats() {
        Runs.opened(SEATS, "A seat that is FREE or OFFERED is open", """
            firstOpen(0, 10) -> 0; take(0, 0, 0, 4, NONE) -> 400; firstOpen(0, 7) -> NONE; firstOpen(0, 6) -> 4
            pay(0, 400) -> 0; firstOpen(0, 7) -> NONE; firstOpen(0, 6) -> 4
            offer(0, 3, 1); firstOpen(0, 7) -> 3; firstOpen(0, 8) -> NONE
            offer(0, 2, 1); firstOpen(0, 8) -> 2; offer(0, 0, 1); firstOpen(0, 1) -> 0; firstOpen(0, 2) -> 2
            take(1, 0, 2, 2, NONE) -> 2; firstOpen(0, 7) -> NONE; letGo(1); firstOpen(0, 8) -> 2
            retract(3) -> 1; firstOpen(0, 7) -> NONE
            """);
    }

    private static void heldSeats() {
        String sentence = "A seat is HELD while it is in a hold; behind that it is what it was, unless it was paid for";
        Runs.opened(SEATS, sentence + ": FREE", """
            take(0, 0, 2, 2, NONE) -> 200; state(1) -> FREE; state(2) -> HELD; state(3) -> HELD; state(4) -> FREE
            letGo(0) -> 0; state(2) -> FREE; state(3) -> FREE
            take(0, 0, 2, 2, NONE) -> 200; pass(9) -> 0; state(2) -> HELD; pass(1) -> 1; state(2) -> FREE
            """);
        Runs.opened(SEATS, sentence + ": OFFERED", """
            buy(0, 0, 0, 2); offer(0, 0, 44); offer(0, 1, 55)
            take(1, 0, 0, 2, NONE) -> 99; state(0) -> HELD; state(1) -> HELD; owner(0) -> 0; retract(0) -> IllegalState
            letGo(1) -> 0; state(0) -> OFFERED; state(1) -> OFFERED; owner(0) -> 0; owner(1) -> 0
            take(2, 0, 0, 2, NONE) -> 99; pass(9) -> 0; state(0) -> HELD; pass(1) -> 1; state(0) -> OFFERED
            retract(0) -> 44; retract(1) -> 55
            """);
        Runs.opened(SEATS, sentence + ": paid for", """
            buy(0, 0, 0, 2); offer(0, 0, 44); take(1, 0, 0, 1, NONE) -> 44; pay(1, 43) -> 1; state(0) -> HELD
            pay(1, 1) -> 0; state(0) -> SOLD; state(1) -> SOLD; owner(0) -> 1; owner(1) -> 0
            pass(500) -> 0; state(0) -> SOLD; retract(0) -> IllegalState
            """);
    }

    private static void singleSeats() {
        String sentence = "An open seat is single if none of the seats beside it in its row is open";
        Runs.opened(SEATS, sentence + ": at the ends of rows", """
            buy(0, 0, 6, 4); buy(1, 1, 0, 4); offer(0, 9, 1); isSingle(9) -> true; offer(1, 10, 1); isSingle(10) -> true
            isSingle(8) -> false; isSingle(11) -> false; isSingle(0) -> false; isSingle(59) -> false
            offer(0, 8, 1); isSingle(9) -> false; isSingle(8) -> false; offer(1, 11, 1); isSingle(10) -> false
            """);
        Runs.opened(SEATS, sentence + ": the rows beside it do not count", """
            buy(0, 1, 4, 3); isSingle(15) -> false; offer(0, 15, 1); state(5) -> FREE; state(25) -> FREE
            isSingle(15) -> true; isSingle(5) -> false; isSingle(25) -> false
            """);
        Runs.opened(SEATS, sentence + ": SOLD and HELD ones beside it", """
            buy(0, 0, 2, 4); offer(0, 3, 1); isSingle(3) -> true; offer(0, 5, 1); isSingle(5) -> false
            isSingle(6) -> false; offer(0, 2, 1); isSingle(3) -> false; isSingle(2) -> false
            retract(2); isSingle(3) -> true; isSingle(2) -> false
            offer(0, 4, 1); isSingle(3) -> false; retract(4); isSingle(3) -> true
            take(1, 0, 3, 1, NONE) -> 1; isSingle(3) -> false
            """);
    }

    // ---- the queue

    private static void laterMinutes() {
        Runs.of(QUEUE, "one is ahead of another one who came in a later minute", """
            join(3) -> 1; pass(1); join(1) -> 2; queueAt(0) -> 3; queueAt(1) -> 1
            pass(499); join(0) -> 3; queueAt(2) -> 0; queueAt(1) -> 1
            quit(3) -> 2; join(3) -> 3; queueAt(0) -> 1; queueAt(1) -> 3; queueAt(2) -> 0
            """);
        Runs.of(QUEUE, "one is ahead of another one who came in a later minute: near the last minute", """
            19 x pass(500); pass(499); time() -> 9999; join(0) -> 1; pass(1); join(5) -> 2
            queueAt(0) -> 0; queueAt(1) -> 5; served() -> 0
            """);
    }

    /** Person by person in the order of the draw; person 0 of the minute 0 has the remainder 0. */
    private static void sameMinute() {
        String sentence = "of those who came in the same minute, the one is ahead for whom 5 times the person's number "
            + "and 3 times the minute, together, by 8, has the lesser remainder";
        int[] order = {0, 5, 2, 7, 4, 1, 6, 3};
        for (int minute = 0; minute <= 16; minute++) {
            StringBuilder rows = new StringBuilder(minute == 0 ? "" : "pass(" + minute + ")\n");
            for (int person = 0; person < 8; person++) {
                rows.append("join(").append(person).append(") -> ").append(person + 1).append('\n');
            }
            for (int place = 0; place < 8; place++) {
                // Three more by a minute, so that the one who was first stands three places farther, around the end.
                int person = order[Math.floorMod(place - 3 * minute, 8)];
                rows.append("queueAt(").append(place).append(") -> ").append(person).append('\n');
            }
            Runs.of(QUEUE, sentence + ", minute " + minute, rows.toString());
        }
        Runs.of(QUEUE, sentence + ": the remainder 7 against 0", """
            join(3); join(0); queueAt(0) -> 0; queueAt(1) -> 3; pass(1); quit(3); quit(0)
            join(4); join(1); queueAt(0) -> 1; queueAt(1) -> 4
            """);
        Runs.of(QUEUE, sentence + ": in the last minutes", """
            19 x pass(500); pass(499); 8 x time() -> 9999
            join(0); join(7); join(2); queueAt(0) -> 7; queueAt(1) -> 0; queueAt(2) -> 2
            pass(1) -> 0; quit(0); quit(7); quit(2); join(3); join(2); join(5); join(0)
            queueAt(0) -> 0; queueAt(1) -> 5; queueAt(2) -> 2; queueAt(3) -> 3
            """);
    }

    private static void firstServed() {
        String sentence = "The first one of the queue is served, if this one came in an earlier minute than that of now";
        Runs.opened(QUEUE, sentence, """
            served() -> NONE; join(0) -> 1; served() -> NONE; hold(0, 0, 0, 2, NONE) -> IllegalState
            pass(1); served() -> 0; join(5) -> 2; served() -> 0; quit(0) -> 1; served() -> NONE
            hold(5, 0, 0, 2, NONE) -> IllegalState; pass(1); served() -> 5; hold(5, 0, 0, 2, NONE) -> 200; served() -> NONE
            """);
        Runs.opened(QUEUE, sentence + ": the first one alone", """
            join(0); join(5); join(2); pass(1); served() -> 0
            hold(5, 0, 0, 2, NONE) -> IllegalState; hold(2, 0, 0, 2, NONE) -> IllegalState
            quit(0); served() -> 5; hold(2, 0, 0, 2, NONE) -> IllegalState; hold(5, 0, 0, 2, NONE) -> 200
            served() -> 2; hold(2, 1, 0, 2, NONE) -> 180; served() -> NONE
            """);
        Runs.opened(QUEUE, sentence + ": who comes again comes now", """
            join(0); pass(1); served() -> 0; quit(0) -> 0; join(0) -> 1; served() -> NONE
            hold(0, 0, 0, 2, NONE) -> IllegalState; pass(1); served() -> 0
            """);
    }

    // ---- holds

    private static void oneHold() {
        String sentence = "A person has one hold at most";
        Runs.opened(HOLDS, sentence, """
            take(0, 0, 0, 2, NONE) -> 200; join(0) -> IllegalState; hold(0, 1, 0, 2, NONE) -> IllegalState
            pay(0, 199) -> 1; join(0) -> IllegalState; hold(0, 1, 0, 2, NONE) -> IllegalState
            pay(0, 1) -> 0; take(0, 1, 0, 2, NONE) -> 180; letGo(0) -> 0; take(0, 1, 0, 2, NONE) -> 180
            pass(9) -> 0; join(0) -> IllegalState; pass(1) -> 1; join(0) -> 1
            """);
    }

    private static void oneToFourSeats() {
        String sentence = "of 1 to 4 seats side by side in a row";
        Runs.opened(HOLDS, sentence, """
            serve(0); hold(0, 0, 0, 0, NONE) -> IllegalArgument; hold(0, 0, 0, 5, NONE) -> IllegalArgument
            hold(0, 0, 0, -1, NONE) -> IllegalArgument; hold(0, 0, 0, 4, NONE) -> 400; state(3) -> HELD; state(4) -> FREE
            letGo(0); take(0, 0, 0, 1, NONE) -> 100; state(0) -> HELD; state(1) -> FREE
            """);
        Runs.opened(HOLDS, sentence + ": not over its end", """
            serve(0); hold(0, 0, 7, 4, NONE) -> IllegalArgument; hold(0, 0, 8, 3, NONE) -> IllegalArgument
            hold(0, 0, 9, 2, NONE) -> IllegalArgument; hold(0, 5, 9, 2, NONE) -> IllegalArgument
            hold(0, 0, 6, 4, NONE) -> 400; state(6) -> HELD; state(9) -> HELD; state(5) -> FREE; state(10) -> FREE
            """);
    }

    private static void madeByTheServed() {
        String sentence = "It is made by the person who is served, who leaves the queue by that";
        Runs.opened(HOLDS, sentence, """
            hold(0, 0, 0, 2, NONE) -> IllegalState; join(0); hold(0, 0, 0, 2, NONE) -> IllegalState; join(5); pass(1)
            hold(5, 0, 0, 2, NONE) -> IllegalState; hold(3, 0, 0, 2, NONE) -> IllegalState
            queueAt(0) -> 0; queueAt(1) -> 5; hold(0, 0, 0, 2, NONE) -> 200
            queueAt(0) -> 5; queueAt(1) -> IndexOutOfBounds; quit(0) -> IllegalState; served() -> 5; quit(5) -> 0
            """);
    }

    private static void allOpen() {
        String sentence = "all its seats have to be open";
        for (int place = 0; place < 3; place++) {
            String hold = "hold(1, 0, " + (5 - place) + ", 3, NONE) -> ";
            Runs.opened(HOLDS, sentence + ": its seat " + place, "take(0, 0, 5, 1, NONE); serve(1); " + hold
                + "IllegalState; pay(0, 100) -> 0; " + hold + "IllegalState; offer(0, 5, 9); " + hold + "209");
        }
    }

    private static void noneOwn() {
        String sentence = "none of them can be the person's own";
        for (int place = 0; place < 3; place++) {
            String hold = "0, " + (5 - place) + ", 3, NONE) -> ";
            Runs.opened(HOLDS, sentence + ": its seat " + place, "buy(0, 0, 5, 1); offer(0, 5, 9); serve(0)\n"
                + "hold(0, " + hold + "IllegalState; served() -> 0; quit(0) -> 0; serve(1); hold(1, " + hold + "209");
        }
        Runs.opened(HOLDS, sentence + ": but the seats beside it, and it again when it was sold", """
            buy(0, 0, 4, 2); offer(0, 4, 9); offer(0, 5, 9); serve(0); hold(0, 0, 4, 1, NONE) -> IllegalState
            hold(0, 0, 4, 2, NONE) -> IllegalState; hold(0, 0, 6, 2, NONE) -> 200; letGo(0)
            buy(1, 0, 4, 2); offer(1, 4, 9); offer(1, 5, 9); serve(1); hold(1, 0, 4, 2, NONE) -> IllegalState
            quit(1); take(0, 0, 4, 2, NONE) -> 18
            """);
    }

    private static void noneLeftSingle() {
        String sentence = "no seat may be single by it that was not";
        Runs.opened(HOLDS, sentence + ": at the ends of the row", """
            serve(0); hold(0, 0, 1, 1, NONE) -> IllegalState; hold(0, 0, 1, 4, NONE) -> IllegalState
            hold(0, 0, 8, 1, NONE) -> IllegalState; hold(0, 0, 5, 4, NONE) -> IllegalState
            hold(0, 0, 2, 1, NONE) -> 100; letGo(0); take(0, 0, 7, 1, NONE) -> 100; letGo(0)
            take(0, 0, 0, 1, NONE) -> 100; letGo(0); take(0, 0, 9, 1, NONE) -> 100; letGo(0)
            take(0, 0, 0, 4, NONE) -> 400; letGo(0); take(0, 0, 6, 4, NONE) -> 400
            """);
        Runs.opened(HOLDS, sentence + ": ahead of it, and behind it", """
            buy(0, 0, 3, 2); serve(1)
            hold(1, 0, 6, 2, NONE) -> IllegalState; hold(1, 0, 1, 1, NONE) -> IllegalState
            hold(1, 0, 0, 2, NONE) -> IllegalState; hold(1, 0, 1, 2, NONE) -> IllegalState
            hold(1, 0, 7, 3, NONE) -> 300; letGo(1); take(1, 0, 5, 3, NONE) -> 300; letGo(1)
            take(1, 0, 0, 1, NONE) -> 100; letGo(1); take(1, 0, 2, 1, NONE) -> 100; letGo(1); take(1, 0, 0, 3, NONE) -> 300
            """);
        Runs.opened(HOLDS, sentence + ": beside a HELD seat as beside a SOLD one", """
            take(0, 0, 3, 2, NONE) -> 200; serve(1); hold(1, 0, 6, 2, NONE) -> IllegalState
            hold(1, 0, 1, 2, NONE) -> IllegalState; letGo(0); hold(1, 0, 6, 2, NONE) -> 200
            """);
        Runs.opened(HOLDS, sentence + ": an OFFERED seat as a FREE one", """
            buy(0, 0, 0, 4); offer(0, 2, 5); offer(0, 3, 5); serve(1)
            hold(1, 0, 3, 1, NONE) -> IllegalState; hold(1, 0, 2, 1, NONE) -> 5; isSingle(3) -> false; letGo(1)
            serve(1); hold(1, 0, 3, 3, NONE) -> IllegalState; retract(2); hold(1, 0, 3, 3, NONE) -> 205
            """);
        Runs.opened(HOLDS, sentence + ": one that was single may stay so", """
            buy(0, 0, 0, 4); offer(0, 1, 5); isSingle(1) -> true; take(1, 0, 4, 2, NONE) -> 200; isSingle(1) -> true
            letGo(1); offer(0, 3, 5); isSingle(3) -> false; serve(1); hold(1, 0, 4, 2, NONE) -> IllegalState
            retract(3); hold(1, 0, 4, 2, NONE) -> 200
            """);
        Runs.opened(HOLDS, sentence + ": one that is single may be held", """
            buy(0, 0, 0, 3); offer(0, 1, 5); offer(0, 0, 5); retract(0); isSingle(1) -> true; take(1, 0, 1, 1, NONE) -> 5
            """);
        Runs.opened(HOLDS, sentence + ": the rows beside it do not count", """
            take(0, 1, 0, 2, NONE) -> 180; isSingle(9) -> false; take(1, 0, 8, 2, NONE) -> 200
            serve(2); hold(2, 2, 1, 2, NONE) -> IllegalState; hold(2, 2, 2, 2, NONE) -> 160
            """);
    }

    private static void costAsItIs() {
        Runs.opened(HOLDS, "Its cost is that of all its seats, as they are when it is made", """
            buy(0, 0, 0, 2); offer(0, 0, 5); offer(0, 1, 6); take(1, 0, 0, 4, NONE) -> 211; offer(0, 0, 7) -> IllegalState
            retract(0) -> IllegalState; pay(1, 212) -> IllegalState; letGo(1); retract(0) -> 5; offer(0, 0, 7)
            take(1, 0, 0, 4, NONE) -> 213; pay(1, 214) -> IllegalState; pay(1, 213) -> 0
            """);
    }

    private static void tenMinutes() {
        String sentence = "It lapses 10 minutes later";
        Runs.opened(HOLDS, sentence, """
            take(0, 0, 0, 2, NONE) -> 200; lapses(0) -> 11; pass(9) -> 0; time() -> 10; lapses(0) -> 11; state(0) -> HELD
            pay(0, 200) -> 0; take(0, 0, 2, 2, NONE); pass(9) -> 0; state(2) -> HELD; pass(1) -> 1; state(2) -> FREE
            lapses(0) -> NONE; pay(0, 1) -> IllegalState; letGo(0) -> IllegalState
            """);
        Runs.opened(HOLDS, sentence + ": passed over", """
            take(0, 0, 0, 2, NONE); pass(11) -> 1; state(0) -> FREE; take(0, 0, 0, 2, NONE); pass(500) -> 1; pass(500) -> 0
            """);
        Runs.opened(HOLDS, sentence + ": two in minutes that follow", """
            join(0); join(5); pass(1); hold(0, 0, 0, 2, NONE); pass(1); hold(5, 1, 0, 2, NONE)
            pass(8) -> 0; pass(1) -> 1; state(0) -> FREE; state(10) -> HELD; pass(1) -> 1; state(10) -> FREE
            """);
    }

    private static void fiveMinutesLater() {
        String sentence = "with each payment that does not pay all 5 minutes later than before, but at the latest 30 "
            + "minutes from when it was made";
        Runs.opened(HOLDS, sentence, """
            take(0, 0, 0, 2, NONE); lapses(0) -> 11; pay(0, 1) -> 199; lapses(0) -> 16; pay(0, 1); lapses(0) -> 21
            pay(0, 1); lapses(0) -> 26; pay(0, 1); lapses(0) -> 31; pay(0, 1); lapses(0) -> 31; pay(0, 1); lapses(0) -> 31
            pass(29) -> 0; time() -> 30; pay(0, 1) -> 193; lapses(0) -> 31; pass(1) -> 1; spent(0) -> 0
            """);
        Runs.opened(HOLDS, sentence + ": than before, not than now", """
            take(0, 0, 0, 2, NONE); pass(9) -> 0; pay(0, 199) -> 1; lapses(0) -> 16; pass(5) -> 0; lapses(0) -> 16
            pass(1) -> 1; lapses(0) -> NONE
            """);
        Runs.opened(HOLDS, sentence + ": a refused payment is none", """
            take(0, 0, 0, 2, NONE); pay(0, 0) -> IllegalArgument; lapses(0) -> 11; pay(0, 1001) -> IllegalArgument
            lapses(0) -> 11; pay(0, 201) -> IllegalState; lapses(0) -> 11; pay(0, 200) -> 0; lapses(0) -> NONE
            """);
        Runs.opened(HOLDS, sentence + ": a new hold begins anew", """
            take(0, 0, 0, 2, NONE); 5 x pay(0, 1); lapses(0) -> 31; letGo(0) -> 5; take(0, 0, 0, 2, NONE); lapses(0) -> 12
            4 x pay(0, 1); lapses(0) -> 32; pay(0, 1); lapses(0) -> 32; pass(29) -> 0; pass(1) -> 1
            """);
    }

    private static void paidForAll() {
        Runs.opened(HOLDS, "When it was paid for, the person owns its seats", """
            take(7, 5, 6, 4, NONE) -> 200; pay(7, 199) -> 1; owner(56) -> NONE; owner(59) -> NONE; pay(7, 1) -> 0
            owner(55) -> NONE; owner(56) -> 7; owner(57) -> 7; owner(58) -> 7; owner(59) -> 7
            ownerBySales(55) -> NONE; ownerBySales(56) -> 7; ownerBySales(59) -> 7
            lapses(7) -> NONE; pay(7, 1) -> IllegalState; letGo(7) -> IllegalState
            """);
    }

    private static void goneHolds() {
        String sentence = "When its minute has come, or the person lets it go, it is gone, and what was paid for it goes "
            + "back";
        Runs.opened(HOLDS, sentence + ": its minute has come", """
            take(0, 0, 0, 2, NONE) -> 200; pay(0, 199) -> 1; pass(14) -> 0; spent(0) -> 199; state(1) -> HELD
            pass(1) -> 1; spent(0) -> 0; state(0) -> FREE; state(1) -> FREE; lapses(0) -> NONE
            letGo(0) -> IllegalState; pay(0, 1) -> IllegalState; takings() -> 0; join(0) -> 1
            """);
        Runs.opened(HOLDS, sentence + ": the person lets it go", """
            take(0, 0, 0, 2, NONE) -> 200; letGo(0) -> 0; take(0, 0, 0, 2, NONE) -> 200; pay(0, 199) -> 1; letGo(0) -> 199
            spent(0) -> 0; state(0) -> FREE; state(1) -> FREE; lapses(0) -> NONE; letGo(0) -> IllegalState
            pay(0, 1) -> IllegalState; pass(500) -> 0; spent(0) -> 0; takings() -> 0
            """);
        Runs.opened(HOLDS, sentence + ": nothing of it is paid for the next one", """
            take(0, 0, 0, 2, NONE) -> 200; pay(0, 199) -> 1; letGo(0) -> 199; take(0, 0, 0, 2, NONE) -> 200
            pay(0, 1) -> 199; letGo(0) -> 1; spent(0) -> 0
            """);
    }

    // ---- codes

    private static void limits() {
        String person = "A code has a limit of seats for each person";
        Runs.opened(CODES, person, """
            code(3, 20) -> 0; serve(0); hold(0, 0, 0, 4, 0) -> IllegalState; hold(0, 0, 0, 3, 0) -> 300
            serve(1); hold(1, 1, 0, 4, 0) -> IllegalState; hold(1, 1, 0, 3, 0) -> 270; pay(0, 300) -> 0
            serve(0); hold(0, 2, 0, 1, 0) -> IllegalState; hold(0, 2, 0, 1, NONE) -> 80
            """);
        String household = "and one for each household";
        Runs.opened(CODES, household, """
            code(10, 3) -> 0; serve(0); hold(0, 0, 0, 4, 0) -> IllegalState; hold(0, 0, 0, 2, 0) -> 200
            serve(1); hold(1, 1, 0, 2, 0) -> IllegalState; hold(1, 1, 0, 1, 0) -> 90; pay(1, 90) -> 0
            serve(1); hold(1, 1, 1, 1, 0) -> IllegalState; quit(1); take(2, 1, 1, 3, 0) -> 270
            """);
        String both = "none of them can be more than the limits";
        Runs.opened(CODES, both + ": the one for the person is the lesser", """
            code(1, 20) -> 0; serve(0); hold(0, 0, 0, 2, 0) -> IllegalState; hold(0, 0, 0, 1, 0) -> 100
            """);
        Runs.opened(CODES, both + ": the one for the household is the lesser", """
            code(10, 1) -> 0; serve(0); hold(0, 0, 0, 2, 0) -> IllegalState; hold(0, 0, 0, 1, 0) -> 100
            """);
        Runs.opened(CODES, both + ": the highest ones", """
            code(10, 20) -> 0; 2 x pass(1)
            take(0, 0, 0, 4, 0) -> 400; pay(0, 400) -> 0; take(0, 0, 4, 4, 0) -> 400; pay(0, 400) -> 0; used(0, 0) -> 8
            serve(0); hold(0, 1, 0, 3, 0) -> IllegalState; hold(0, 1, 0, 2, 0) -> 180; pay(0, 180); used(0, 0) -> 10
            serve(0); hold(0, 1, 2, 1, 0) -> IllegalState; quit(0)
            take(1, 2, 0, 4, 0) -> 320; pay(1, 320); take(1, 2, 4, 4, 0) -> 320; pay(1, 320)
            serve(1); hold(1, 3, 0, 3, 0) -> IllegalState; hold(1, 3, 0, 2, 0) -> 140; used(0, 1) -> 10
            """);
        Runs.opened(CODES, both + ": each code by itself", """
            code(2, 2) -> 0; code(2, 2) -> 1; take(0, 0, 0, 2, 0) -> 200; pay(0, 200); serve(0)
            hold(0, 0, 2, 1, 0) -> IllegalState; hold(0, 0, 2, 2, 1) -> 200; used(0, 0) -> 2; used(1, 0) -> 2
            """);
    }

    private static void neededCode() {
        Runs.of(CODES, "ahead of the minute of opening, 100 at first, it has to", """
            code(10, 20) -> 0; join(0); join(5); join(2); pass(99); hold(0, 0, 0, 2, NONE) -> IllegalState
            hold(0, 0, 0, 2, 0) -> 200; hold(5, 1, 0, 2, NONE) -> IllegalState; pass(1)
            hold(5, 1, 0, 2, NONE) -> 180; hold(2, 2, 0, 2, 0) -> 160; used(0, 2) -> 2; used(0, 5) -> 0
            """);
        Runs.of(CODES, "ahead of the minute of opening: as it was set", """
            join(0); pass(7); setOpening(8) -> 100; hold(0, 0, 0, 2, NONE) -> IllegalState; setOpening(7) -> 8
            hold(0, 0, 0, 2, NONE) -> 200; setOpening(10000) -> 7; state(0) -> HELD; pay(0, 200) -> 0
            serve(0); hold(0, 1, 0, 2, NONE) -> IllegalState; setOpening(0) -> 10000; hold(0, 1, 0, 2, NONE) -> 180
            """);
        Runs.of(CODES, "ahead of the minute of opening: the last one", """
            setOpening(10000) -> 100; join(0); 19 x pass(500); pass(499); hold(0, 0, 0, 2, NONE) -> IllegalState
            pass(1); hold(0, 0, 0, 2, NONE) -> 200
            """);
    }

    private static void countedSeats() {
        String sentence = "Seats of a hold that was made by a code count for the code, for the person and the household, "
            + "while the hold is there";
        Runs.opened(CODES, sentence + ": let go", """
            code(2, 2) -> 0; used(0, 0) -> 0; take(0, 0, 0, 2, 0) -> 200; used(0, 0) -> 2; used(0, 1) -> 0
            serve(1); hold(1, 1, 0, 1, 0) -> IllegalState; letGo(0); used(0, 0) -> 0; hold(1, 1, 0, 2, 0) -> 180
            used(0, 1) -> 2; serve(0); hold(0, 0, 0, 1, 0) -> IllegalState
            """);
        Runs.opened(CODES, sentence + ": lapsed", """
            code(2, 2) -> 0; take(0, 0, 0, 2, 0) -> 200; join(1); pass(9); used(0, 0) -> 2
            hold(1, 1, 0, 1, 0) -> IllegalState; pass(1) -> 1; used(0, 0) -> 0; hold(1, 1, 0, 2, 0) -> 180
            """);
        Runs.opened(CODES, sentence + ": not by a hold without one", """
            code(2, 2) -> 0; take(0, 0, 0, 4, NONE) -> 400; used(0, 0) -> 0; letGo(0); used(0, 0) -> 0
            take(0, 0, 0, 2, 0) -> 200; used(0, 0) -> 2; pay(0, 200); take(0, 0, 2, 2, NONE); letGo(0); used(0, 0) -> 2
            """);
    }

    private static void countedForGood() {
        String sentence = "and for good when it was paid for, whoever owns them later";
        Runs.opened(CODES, sentence, """
            code(2, 3) -> 0; take(0, 0, 0, 2, 0) -> 200; pay(0, 199) -> 1; used(0, 0) -> 2; pay(0, 1) -> 0; used(0, 0) -> 2
            pass(500); used(0, 0) -> 2; offer(0, 0, 1); offer(0, 1, 1); buy(4, 0, 0, 2); owner(0) -> 4; used(0, 0) -> 2
            used(0, 4) -> 0; serve(0); hold(0, 1, 0, 1, 0) -> IllegalState; quit(0); serve(1)
            hold(1, 1, 0, 2, 0) -> IllegalState; hold(1, 1, 0, 1, 0) -> 90; letGo(1); take(5, 1, 0, 2, 0) -> 180
            """);
        Runs.opened(CODES, sentence + ": a seat that was bought by it again", """
            code(2, 20) -> 0; take(0, 0, 0, 1, 0); pay(0, 100); offer(0, 0, 10); take(4, 0, 0, 1, 0); pay(4, 10)
            offer(4, 0, 10); take(0, 0, 0, 1, 0) -> 10; pay(0, 10) -> 0; used(0, 0) -> 2; used(0, 4) -> 1
            offer(0, 0, 10); buy(4, 0, 0, 1); offer(4, 0, 10); serve(0); hold(0, 0, 0, 1, 0) -> IllegalState
            """);
    }

    // ---- what is thrown

    private static void changesNothing() {
        Runs.opened(THROWN, "A call that throws an exception changes nothing", """
            code(2, 3) -> 0; buy(0, 0, 0, 2); offer(0, 0, 20); take(1, 5, 0, 2, 0) -> 100; pay(1, 40) -> 60; join(2); pass(1)
            join(4); pass(501) -> IllegalArgument; setOpening(10001) -> IllegalArgument; code(2, 21) -> IllegalArgument
            used(1, 0) -> IndexOutOfBounds; join(1) -> IllegalState; join(2) -> IllegalState; quit(1) -> IllegalState
            queueAt(2) -> IndexOutOfBounds; hold(2, 0, 0, 3, 0) -> IllegalState; hold(2, 0, 0, 2, 0) -> IllegalState
            hold(2, 0, 2, 3, 0) -> IllegalState; hold(4, 0, 2, 2, 0) -> IllegalState; hold(2, 0, 2, 2, 1) -> IndexOutOfBounds
            pay(1, 61) -> IllegalState; pay(0, 1) -> IllegalState; letGo(0) -> IllegalState; offer(0, 0, 1) -> IllegalState
            offer(0, 1, 111) -> IllegalState; offer(1, 50, 1) -> IllegalState; retract(1) -> IllegalState
            retract(50) -> IllegalState; spent(8) -> IndexOutOfBounds; firstOpen(0, 11) -> IllegalArgument
            """);
        Runs.of(THROWN, "A call that throws an exception changes nothing: ahead of the opening", """
            code(1, 1) -> 0; join(0); pass(1); hold(0, 0, 0, 2, NONE) -> IllegalState; hold(0, 0, 0, 2, 0) -> IllegalState
            served() -> 0; hold(0, 0, 0, 1, 0) -> 100
            """);
        Runs.opened(THROWN, "A call that throws an exception changes nothing: at the last minute", """
            9 x code(1, 1); code(2, 2) -> 9; 19 x pass(500); pass(494); take(0, 0, 0, 2, 9) -> 200; pay(0, 1) -> 199
            pass(6) -> IllegalState; code(1, 1) -> IllegalState; pass(500) -> IllegalState; pass(5) -> 0; time() -> 10000
            state(0) -> HELD
            """);
    }

    private static void firstNamed() {
        String sentence = "of several exceptions that apply, the one that its throws clause names first is thrown";
        Runs.of(THROWN, sentence + ": pass", """
            20 x pass(500); pass(0) -> IllegalArgument; pass(501) -> IllegalArgument; pass(1) -> IllegalState
            pass(MAX) -> IllegalArgument; pass(MIN) -> IllegalArgument; pass(500) -> IllegalState
            """);
        Runs.of(THROWN, sentence + ": code", """
            10 x code(1, 1); code(0, 1) -> IllegalArgument; code(11, 1) -> IllegalArgument; code(1, 0) -> IllegalArgument
            code(1, 21) -> IllegalArgument; code(1, 1) -> IllegalState; code(10, 20) -> IllegalState
            """);
        Runs.opened(THROWN, sentence + ": hold, no such and many", """
            serve(0); hold(8, 0, 0, 0, NONE) -> IndexOutOfBounds; hold(-1, 0, 0, 5, NONE) -> IndexOutOfBounds
            hold(0, 6, 0, 0, NONE) -> IndexOutOfBounds; hold(0, -1, 0, 5, NONE) -> IndexOutOfBounds
            hold(0, 0, 10, 0, NONE) -> IndexOutOfBounds; hold(0, 0, 10, 4, NONE) -> IndexOutOfBounds
            hold(0, 0, -1, 5, NONE) -> IndexOutOfBounds; hold(0, 0, 0, 0, 0) -> IndexOutOfBounds
            hold(0, 0, 0, 5, -2) -> IndexOutOfBounds; hold(0, 0, 9, 2, 0) -> IndexOutOfBounds
            """);
        Runs.opened(THROWN, sentence + ": hold, no such and the state", """
            code(10, 20); serve(0); hold(8, 0, 0, 2, NONE) -> IndexOutOfBounds; hold(1, 6, 0, 2, NONE) -> IndexOutOfBounds
            hold(1, 0, 10, 1, NONE) -> IndexOutOfBounds; hold(1, 0, 0, 2, 1) -> IndexOutOfBounds
            hold(0, 0, 1, 2, 1) -> IndexOutOfBounds; hold(0, 0, 1, 2, -2) -> IndexOutOfBounds
            setOpening(100); hold(0, 0, 0, 2, 1) -> IndexOutOfBounds; hold(0, 0, 0, 2, NONE) -> IllegalState
            """);
        Runs.opened(THROWN, sentence + ": hold, many and the state", """
            code(1, 1); buy(5, 0, 4, 2); offer(5, 4, 1); serve(0)
            hold(1, 0, 0, 0, NONE) -> IllegalArgument; hold(1, 0, 0, 5, NONE) -> IllegalArgument
            hold(1, 0, 8, 3, NONE) -> IllegalArgument; hold(0, 0, 1, 5, NONE) -> IllegalArgument
            hold(0, 0, 5, 0, 0) -> IllegalArgument; hold(0, 0, 4, 5, 0) -> IllegalArgument
            setOpening(100); hold(0, 0, 0, 0, NONE) -> IllegalArgument; hold(0, 0, 0, 5, NONE) -> IllegalArgument
            """);
        Runs.opened(THROWN, sentence + ": pay", """
            pay(8, 0) -> IndexOutOfBounds; pay(-1, 1001) -> IndexOutOfBounds; pay(8, 1) -> IndexOutOfBounds
            pay(0, 0) -> IllegalArgument; pay(0, 1001) -> IllegalArgument; pay(0, 1) -> IllegalState
            take(0, 0, 0, 2, NONE); pay(0, 1001) -> IllegalArgument; pay(0, 1000) -> IllegalState
            pay(8, 1001) -> IndexOutOfBounds
            """);
        Runs.opened(THROWN, sentence + ": firstOpen", """
            firstOpen(6, 0) -> IndexOutOfBounds; firstOpen(-1, 11) -> IndexOutOfBounds; firstOpen(0, 0) -> IllegalArgument
            firstOpen(5, 11) -> IllegalArgument
            """);
        Runs.opened(THROWN, sentence + ": offer", """
            buy(0, 0, 0, 2); offer(8, 0, 0) -> IndexOutOfBounds; offer(-1, 0, 10001) -> IndexOutOfBounds
            offer(0, 60, 0) -> IndexOutOfBounds; offer(0, -1, 10001) -> IndexOutOfBounds; offer(8, 5, 1) -> IndexOutOfBounds
            offer(0, 60, 111) -> IndexOutOfBounds; offer(0, 5, 0) -> IllegalArgument; offer(1, 0, 0) -> IllegalArgument
            offer(1, 0, 10001) -> IllegalArgument; offer(0, 0, 10001) -> IllegalArgument; offer(0, 0, 10000) -> IllegalState
            """);
    }

    private static void noSuch() {
        String sentence = "An IndexOutOfBoundsException is thrown if there is no such person, row, place, seat, code or "
            + "place in the queue";
        Runs.opened(THROWN, sentence + ": seat", """
            state(0) -> FREE; state(59) -> FREE; state(-1) -> IndexOutOfBounds; state(60) -> IndexOutOfBounds
            owner(0) -> NONE; owner(59) -> NONE; owner(-1) -> IndexOutOfBounds; owner(60) -> IndexOutOfBounds
            ownerBySales(0) -> NONE; ownerBySales(59) -> NONE; ownerBySales(-1) -> IndexOutOfBounds
            ownerBySales(60) -> IndexOutOfBounds; isSingle(0) -> false; isSingle(59) -> false
            isSingle(-1) -> IndexOutOfBounds; isSingle(60) -> IndexOutOfBounds
            buy(0, 0, 0, 1); buy(0, 5, 9, 1); offer(0, -1, 1) -> IndexOutOfBounds; offer(0, 60, 1) -> IndexOutOfBounds
            offer(0, 0, 1) -> 110; offer(0, 59, 1) -> 55; retract(-1) -> IndexOutOfBounds; retract(60) -> IndexOutOfBounds
            retract(0) -> 1; retract(59) -> 1
            """);
        Runs.opened(THROWN, sentence + ": code", """
            used(0, 0) -> IndexOutOfBounds; serve(0); hold(0, 0, 0, 2, 0) -> IndexOutOfBounds; code(10, 20) -> 0
            used(0, 0) -> 0; used(-1, 0) -> IndexOutOfBounds; used(1, 0) -> IndexOutOfBounds
            hold(0, 0, 0, 2, 1) -> IndexOutOfBounds; hold(0, 0, 0, 2, -2) -> IndexOutOfBounds; hold(0, 0, 0, 2, 0) -> 200
            8 x code(10, 20); code(10, 20) -> 9; used(9, 0) -> 0; used(10, 0) -> IndexOutOfBounds; letGo(0); serve(0)
            hold(0, 0, 0, 2, 10) -> IndexOutOfBounds; hold(0, 0, 0, 2, 9) -> 200; used(9, 0) -> 2
            """);
        Runs.opened(THROWN, sentence + ": place in the queue", """
            queueAt(0) -> IndexOutOfBounds; queueAt(-1) -> IndexOutOfBounds; join(4); queueAt(0) -> 4
            queueAt(1) -> IndexOutOfBounds; queueAt(-1) -> IndexOutOfBounds; pass(1); join(3); queueAt(1) -> 3
            queueAt(2) -> IndexOutOfBounds; quit(4); queueAt(0) -> 3; queueAt(1) -> IndexOutOfBounds
            pass(1); hold(3, 0, 0, 2, NONE); queueAt(0) -> IndexOutOfBounds
            """);
    }
}
