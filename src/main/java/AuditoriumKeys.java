/** The seats of a theatre, with the queue, the holds, the codes and the sales that lead to them. */
public final class AuditoriumKeys {
    /** There is none. */
    public static final int NONE = -1;
    /** What a seat is. */
    public static final int FREE = 0, HELD = 1, SOLD = 2, OFFERED = 3;

    private static final int PERSONS = 8;
    private static final int ROWS = 6;
    private static final int PLACES = 10;
    private static final int SEATS = ROWS * PLACES;
    private static final int CODES = 10;
    private static final int LAST_MINUTE = 10000;
    private static final int MOST_MINUTES_PASSED = 500;
    private static final int MOST_OF_PERSON = 10;
    private static final int MOST_OF_HOUSEHOLD = 20;
    private static final int MOST_SEATS_HELD = 4;
    private static final int MOST_COINS_PAID = 1000;
    private static final int HIGHEST_PRICE = 10000;
    // Each sale needs a join, a hold and a payment of its own, and an object is used for 512 calls.
    private static final int MOST_SALES = 512 / 3;

    private int now = 0;
    private int opening = 100;
    private int taken = 0;
    private final int[] outlay = new int[PERSONS];
    private final Codes codes = new Codes();
    private final Line line = new Line();
    private final Holds holds = new Holds();
    private final Seats seats = new Seats();
    private final Sales sales = new Sales();

    public AuditoriumKeys() {
    }

    public int pass(int minutes) throws IllegalArgumentException, IllegalStateException {
        if (minutes < 1 || minutes > MOST_MINUTES_PASSED) {
            throw new IllegalArgumentException("minutes is out of range");
        }
        if (now + minutes > LAST_MINUTE) {
            throw new IllegalStateException("the time would be above 10000");
        }
        now += minutes;
        int lapsed = 0;
        for (int person = 0; person < PERSONS; person++) {
            if (holds.isThere(person) && holds.lapse[person] <= now) {
                giveBack(person);
                lapsed++;
            }
        }
        return lapsed;
    }

    public int time() {
        return now;
    }

    public int setOpening(int minute) throws IllegalArgumentException {
        if (minute < 0 || minute > LAST_MINUTE) {
            throw new IllegalArgumentException("minute is out of range");
        }
        int before = opening;
        opening = minute;
        return before;
    }

    public int code(int ofPerson, int ofHousehold) throws IllegalArgumentException, IllegalStateException {
        if (ofPerson < 1 || ofPerson > MOST_OF_PERSON) {
            throw new IllegalArgumentException("the limit for each person is out of range");
        }
        if (ofHousehold < 1 || ofHousehold > MOST_OF_HOUSEHOLD) {
            throw new IllegalArgumentException("the limit for each household is out of range");
        }
        if (codes.count >= CODES) {
            throw new IllegalStateException("there are 10 codes");
        }
        return codes.add(ofPerson, ofHousehold);
    }

    public int used(int code, int person) throws IndexOutOfBoundsException {
        needCode(code);
        needPerson(person);
        return codes.seatsOf(code, person);
    }

    // ---- the queue

    public int join(int person) throws IndexOutOfBoundsException, IllegalStateException {
        needPerson(person);
        if (line.isIn(person)) {
            throw new IllegalStateException("the person is in the queue");
        }
        if (holds.isThere(person)) {
            throw new IllegalStateException("the person has a hold");
        }
        line.enter(person, now);
        return line.length();
    }

    public int quit(int person) throws IndexOutOfBoundsException, IllegalStateException {
        needPerson(person);
        if (!line.isIn(person)) {
            throw new IllegalStateException("the person is not in the queue");
        }
        line.leave(person);
        return line.length();
    }

    public int queueAt(int place) throws IndexOutOfBoundsException {
        int person = line.personAt(place);
        if (person == NONE) {
            throw new IndexOutOfBoundsException("no such place in the queue");
        }
        return person;
    }

    public int served() {
        int first = line.personAt(0);
        if (first == NONE || line.came[first] >= now) {
            return NONE;
        }
        return first;
    }

    // ---- holds

    public int hold(int person, int row, int place, int many, int code)
            throws IndexOutOfBoundsException, IllegalArgumentException, IllegalStateException {
        needPerson(person);
        needRow(row);
        if (place < 0 || place >= PLACES) {
            throw new IndexOutOfBoundsException("no such place");
        }
        if (code != NONE) {
            needCode(code);
        }
        if (many < 1 || many > MOST_SEATS_HELD || place + many > PLACES) {
            throw new IllegalArgumentException("many is out of range");
        }
        if (served() != person) {
            throw new IllegalStateException("the person is not served");
        }
        needSeatsFor(person, row, place, many);
        needRightFor(person, many, code);
        line.leave(person);
        codes.tally(code, person, many);
        int first = PLACES * row + place;
        int cost = seats.lock(first, many);
        holds.make(person, first, many, code, cost, now);
        return cost;
    }

    public int pay(int person, int coins)
            throws IndexOutOfBoundsException, IllegalArgumentException, IllegalStateException {
        needPerson(person);
        if (coins < 1 || coins > MOST_COINS_PAID) {
            throw new IllegalArgumentException("coins is out of range");
        }
        needHold(person);
        if (coins > holds.left(person)) {
            throw new IllegalStateException("less is left to be paid");
        }
        outlay[person] += coins;
        holds.paid[person] += coins;
        int left = holds.left(person);
        if (left == 0) {
            sell(person);
        } else {
            holds.prolong(person);
        }
        return left;
    }

    public int letGo(int person) throws IndexOutOfBoundsException, IllegalStateException {
        needPerson(person);
        needHold(person);
        return giveBack(person);
    }

    public int lapses(int person) throws IndexOutOfBoundsException {
        needPerson(person);
        return holds.isThere(person) ? holds.lapse[person] : NONE;
    }

    // ---- seats

    public int state(int seat) throws IndexOutOfBoundsException {
        needSeat(seat);
        return seats.stateOf(seat);
    }

    public int owner(int seat) throws IndexOutOfBoundsException {
        needSeat(seat);
        return seats.owner[seat];
    }

    public int ownerBySales(int seat) throws IndexOutOfBoundsException {
        needSeat(seat);
        return sales.lastBuyerOf(seat);
    }

    public boolean isSingle(int seat) throws IndexOutOfBoundsException {
        needSeat(seat);
        int row = seat / PLACES;
        int place = seat % PLACES;
        return seats.isOpen(row, place) && !seats.isOpen(row, place - 1) && !seats.isOpen(row, place + 1);
    }

    public int firstOpen(int row, int many) throws IndexOutOfBoundsException, IllegalArgumentException {
        needRow(row);
        if (many < 1 || many > PLACES) {
            throw new IllegalArgumentException("many is out of range");
        }
        int side = 0;
        for (int place = 0; place < PLACES; place++) {
            side = seats.isOpen(row, place) ? side + 1 : 0;
            if (side == many) {
                return place - many + 1;
            }
        }
        return NONE;
    }

    public int offer(int person, int seat, int price)
            throws IndexOutOfBoundsException, IllegalArgumentException, IllegalStateException {
        needPerson(person);
        needSeat(seat);
        if (price < 1 || price > HIGHEST_PRICE) {
            throw new IllegalArgumentException("price is out of range");
        }
        if (seats.stateOf(seat) != SOLD) {
            throw new IllegalStateException("the seat is not SOLD");
        }
        if (seats.owner[seat] != person) {
            throw new IllegalStateException("the person does not own the seat");
        }
        int ceiling = seats.ceilingOf(seat);
        if (price > ceiling) {
            throw new IllegalStateException("price is above the ceiling");
        }
        seats.putUp(seat, price);
        return ceiling;
    }

    public int retract(int seat) throws IndexOutOfBoundsException, IllegalStateException {
        needSeat(seat);
        if (seats.stateOf(seat) != OFFERED) {
            throw new IllegalStateException("the seat is not OFFERED");
        }
        seats.offered[seat] = false;
        return seats.price[seat];
    }

    // ---- money

    public int spent(int person) throws IndexOutOfBoundsException {
        needPerson(person);
        return outlay[person];
    }

    public int takings() {
        return taken;
    }

    private static void needPerson(int person) {
        if (person < 0 || person >= PERSONS) {
            throw new IndexOutOfBoundsException("no such person");
        }
    }

    private static void needRow(int row) {
        if (row < 0 || row >= ROWS) {
            throw new IndexOutOfBoundsException("no such row");
        }
    }

    private static void needSeat(int seat) {
        if (seat < 0 || seat >= SEATS) {
            throw new IndexOutOfBoundsException("no such seat");
        }
    }

    private void needCode(int code) {
        if (code < 0 || code >= codes.count) {
            throw new IndexOutOfBoundsException("no such code");
        }
    }

    private void needHold(int person) {
        if (!holds.isThere(person)) {
            throw new IllegalStateException("the person has no hold");
        }
    }

    private void needSeatsFor(int person, int row, int place, int many) {
        for (int next = place; next < place + many; next++) {
            if (!seats.isOpen(row, next)) {
                throw new IllegalStateException("a seat is not open");
            }
            if (seats.owner[PLACES * row + next] == person) {
                throw new IllegalStateException("a seat is the person's own");
            }
        }
        if (seats.leavesSingle(row, place, many)) {
            throw new IllegalStateException("a seat would be single");
        }
    }

    private void needRightFor(int person, int many, int code) {
        if (code == NONE) {
            if (now < opening) {
                throw new IllegalStateException("a code is needed");
            }
        } else if (!codes.haveRoom(code, person, many)) {
            throw new IllegalStateException("a limit of the code would be passed");
        }
    }

    private int giveBack(int person) {
        int back = holds.paid[person];
        outlay[person] -= back;
        codes.tally(holds.code[person], person, -holds.many[person]);
        seats.unlock(holds.first[person], holds.many[person]);
        holds.end(person);
        return back;
    }

    private void sell(int person) {
        int first = holds.first[person];
        int many = holds.many[person];
        for (int seat = first; seat < first + many; seat++) {
            int seller = seats.owner[seat];
            if (seller == NONE) {
                taken += seats.price[seat];
            } else {
                outlay[seller] -= seats.price[seat];
            }
            seats.giveTo(seat, person);
        }
        sales.add(first, many, person);
        holds.end(person);
    }

    /** The codes: their limits, and the seats that count for each person. */
    private static final class Codes {
        private int count = 0;
        private final int[] ofPerson = new int[CODES];
        private final int[] ofHousehold = new int[CODES];
        private final int[] counted = new int[CODES * PERSONS];

        private int add(int person, int household) {
            ofPerson[count] = person;
            ofHousehold[count] = household;
            count++;
            return count - 1;
        }

        private int seatsOf(int code, int person) {
            return counted[PERSONS * code + person];
        }

        private boolean haveRoom(int code, int person, int many) {
            // The two of a household have numbers that differ in the last bit alone.
            int mate = person ^ 1;
            int own = seatsOf(code, person) + many;
            return own <= ofPerson[code] && own + seatsOf(code, mate) <= ofHousehold[code];
        }

        private void tally(int code, int person, int many) {
            if (code != NONE) {
                counted[PERSONS * code + person] += many;
            }
        }
    }

    /** The queue: only the minute of each who came is kept, as it settles all their places. */
    private static final class Line {
        private final int[] came = new int[PERSONS];

        private Line() {
            for (int person = 0; person < PERSONS; person++) {
                came[person] = NONE;
            }
        }

        private boolean isIn(int person) {
            return came[person] != NONE;
        }

        private void enter(int person, int minute) {
            came[person] = minute;
        }

        private void leave(int person) {
            came[person] = NONE;
        }

        private int length() {
            int many = 0;
            for (int person = 0; person < PERSONS; person++) {
                if (isIn(person)) {
                    many++;
                }
            }
            return many;
        }

        private int personAt(int place) {
            for (int person = 0; person < PERSONS; person++) {
                if (isIn(person) && placeOf(person) == place) {
                    return person;
                }
            }
            return NONE;
        }

        private int placeOf(int person) {
            int ahead = 0;
            for (int other = 0; other < PERSONS; other++) {
                if (isIn(other) && rank(other) < rank(person)) {
                    ahead++;
                }
            }
            return ahead;
        }

        // The draw is below 8 and no two persons share one, so that a minute has a span of 8 ranks.
        private int rank(int person) {
            int minute = came[person];
            return 8 * minute + (5 * person + 3 * minute) % 8;
        }
    }

    /** The hold of each person; one of no seats is none. */
    private static final class Holds {
        private static final int FIRST_SPAN = 10;
        private static final int SPAN_OF_PAYMENT = 5;
        private static final int LONGEST_SPAN = 30;

        private final int[] first = new int[PERSONS];
        private final int[] many = new int[PERSONS];
        private final int[] code = new int[PERSONS];
        private final int[] cost = new int[PERSONS];
        private final int[] paid = new int[PERSONS];
        private final int[] latest = new int[PERSONS];
        private final int[] lapse = new int[PERSONS];

        private boolean isThere(int person) {
            return many[person] > 0;
        }

        private int left(int person) {
            return cost[person] - paid[person];
        }

        private void make(int person, int seat, int seats, int byCode, int coins, int minute) {
            first[person] = seat;
            many[person] = seats;
            code[person] = byCode;
            cost[person] = coins;
            paid[person] = 0;
            latest[person] = minute + LONGEST_SPAN;
            lapse[person] = minute + FIRST_SPAN;
        }

        private void prolong(int person) {
            lapse[person] = Math.min(lapse[person] + SPAN_OF_PAYMENT, latest[person]);
        }

        private void end(int person) {
            many[person] = 0;
        }
    }

    /** The seats; what a seat was stays as it is while it is held, for the hold may go without a sale. */
    private static final class Seats {
        private final boolean[] held = new boolean[SEATS];
        private final boolean[] offered = new boolean[SEATS];
        private final int[] owner = new int[SEATS];
        private final int[] price = new int[SEATS];
        private final int[] bought = new int[SEATS];

        private Seats() {
            for (int seat = 0; seat < SEATS; seat++) {
                owner[seat] = NONE;
                price[seat] = 100 - 10 * (seat / PLACES);
            }
        }

        private int stateOf(int seat) {
            if (held[seat]) {
                return HELD;
            }
            if (owner[seat] == NONE) {
                return FREE;
            }
            return offered[seat] ? OFFERED : SOLD;
        }

        // A place beyond the row's ends is not open, as no seat is there.
        private boolean isOpen(int row, int place) {
            if (place < 0 || place >= PLACES) {
                return false;
            }
            int state = stateOf(PLACES * row + place);
            return state == FREE || state == OFFERED;
        }

        // Only the seats beside a hold lose a neighbour by it, and they were not single as its seats were open.
        private boolean leavesSingle(int row, int place, int many) {
            int behind = place + many;
            return isOpen(row, place - 1) && !isOpen(row, place - 2)
                || isOpen(row, behind) && !isOpen(row, behind + 1);
        }

        private int lock(int first, int many) {
            int cost = 0;
            for (int seat = first; seat < first + many; seat++) {
                held[seat] = true;
                cost += price[seat];
            }
            return cost;
        }

        private void unlock(int first, int many) {
            for (int seat = first; seat < first + many; seat++) {
                held[seat] = false;
            }
        }

        private void giveTo(int seat, int person) {
            held[seat] = false;
            offered[seat] = false;
            owner[seat] = person;
            bought[seat] = price[seat];
        }

        private int ceilingOf(int seat) {
            return bought[seat] * 11 / 10;
        }

        private void putUp(int seat, int coins) {
            offered[seat] = true;
            price[seat] = coins;
        }
    }

    /** All sales, in their order. */
    private static final class Sales {
        private int count = 0;
        private final int[] first = new int[MOST_SALES];
        private final int[] many = new int[MOST_SALES];
        private final int[] buyer = new int[MOST_SALES];

        private void add(int seat, int seats, int person) {
            if (count >= MOST_SALES) {
                return;
            }
            first[count] = seat;
            many[count] = seats;
            buyer[count] = person;
            count++;
        }

        private int lastBuyerOf(int seat) {
            int last = NONE;
            for (int sale = 0; sale < count; sale++) {
                if (first[sale] <= seat && seat < first[sale] + many[sale]) {
                    last = buyer[sale];
                }
            }
            return last;
        }
    }
}
