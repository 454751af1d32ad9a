/**
 * The boundary cases of 'Rooms, plays' that are of rooms, and of promises 8 to 12, sentence by sentence: the comment
 * above each test is what the document says.
 */
public final class RoomBoundsTest {
    private static final int[] NO_ROOM = {Integer.MIN_VALUE, -2, -1, 2, 3, 4, 5, 256, Integer.MAX_VALUE};
    private static final int[] NO_SINGER = {Integer.MIN_VALUE, -2, -1, 10, 11, 256, Integer.MAX_VALUE};

    public static void main(String[] args) {
        roomsAreAtMostFour();
        singersAreZeroToNine();
        comeRoomInRange();
        whoComesSingsIfNobodyDoes();
        atMostSixWait();
        aPlaceAmongTheSixIsFreeAgain();
        nobodyIsInTwoRooms();
        leaveSingerInRange();
        leaveOfNobody();
        leaveOfOneWhoSings();
        leaveOfOneWhoWaits();
        leaveTellsTheRoom();
        passOfNoRooms();
        passOfNoneToFourRooms();
        passUntilNobodyWaits();
        whoWentMayComeAgain();
        whoLeavesDropsABegunPlay();
        whoGoesDropsABegunPlay();
        aNoteWorthNothingIsSungToo();
        otherPlaysStay();
        otherRoomsStay();
        singsRoomInRange();
        singsOfNobody();
        Check.end();
    }

    private static EchoParlour parlour(int rooms) {
        EchoParlour x = new EchoParlour();
        for (int i = 0; i < rooms; i++) {
            x.room();
        }
        return x;
    }

    /** Lets the singers come one by one, and looks at who waits ahead of each. */
    private static void come(EchoParlour x, int room, int... singers) {
        for (int i = 0; i < singers.length; i++) {
            Check.due("singer " + singers[i] + " comes to room " + room, x.come(room, singers[i]), i - 1);
        }
    }

    private static void singsDue(EchoParlour x, String when, int... due) {
        for (int room = 0; room < due.length; room++) {
            Check.due("sings(" + room + ") " + when, x.sings(room), due[room]);
        }
    }

    /** Rooms are numbered from 0, at most 4. room throws IllegalStateException if there are 4. */
    private static void roomsAreAtMostFour() {
        EchoParlour x = new EchoParlour();
        for (int i = 0; i < 4; i++) {
            int next = i;
            Check.throwsDue("sings(" + i + ") ahead of the room", Check.INDEX, () -> x.sings(next));
            Check.due("room " + i, x.room(), i);
            Check.due("sings(" + i + ") behind the room", x.sings(i), -1);
        }
        Check.throwsDue("room 4", Check.STATE, x::room);
        come(x, 0, 1);
        Check.throwsDue("room 4, once more", Check.STATE, x::room);
        Check.throwsDue("sings(4)", Check.INDEX, () -> x.sings(4));
        singsDue(x, "behind the rooms", 1, -1, -1, -1);
    }

    /** Singers [are numbered] 0 to 9. IndexOutOfBoundsException: there is no such .. singer. */
    private static void singersAreZeroToNine() {
        for (int singer = 0; singer <= 9; singer++) {
            EchoParlour x = parlour(1);
            Check.due("come(0, " + singer + ")", x.come(0, singer), -1);
            Check.due("sings(0)", x.sings(0), singer);
            Check.due("leave(" + singer + ")", x.leave(singer), 0);
        }
        EchoParlour x = parlour(1);
        for (int singer : NO_SINGER) {
            Check.throwsDue("come(0, " + singer + ")", Check.INDEX, () -> x.come(0, singer));
        }
        come(x, 0, 0, 1, 2, 3, 4, 5, 6);
        for (int singer : NO_SINGER) {
            Check.throwsDue("come(0, " + singer + "), 6 wait", Check.INDEX, () -> x.come(0, singer));
        }
    }

    /** IndexOutOfBoundsException: there is no such room. It is named ahead of IllegalStateException. */
    private static void comeRoomInRange() {
        EchoParlour x = parlour(2);
        for (int room : NO_ROOM) {
            Check.throwsDue("come(" + room + ", 0)", Check.INDEX, () -> x.come(room, 0));
            Check.throwsDue("come(" + room + ", 10)", Check.INDEX, () -> x.come(room, 10));
        }
        come(x, 1, 0, 1);
        for (int room : NO_ROOM) {
            Check.throwsDue("who sings: come(" + room + ", 0)", Check.INDEX, () -> x.come(room, 0));
            Check.throwsDue("who waits: come(" + room + ", 1)", Check.INDEX, () -> x.come(room, 1));
        }
        Check.due("the last room is one", x.come(1, 2), 1);
        Check.due("the first room is one", x.come(0, 3), -1);
    }

    /** A singer who comes to a room sings there, if nobody does, otherwise waits behind others who wait for it. */
    private static void whoComesSingsIfNobodyDoes() {
        EchoParlour x = parlour(2);
        Check.due("nobody sings", x.come(0, 7), -1);
        Check.due("one sings, none waits", x.come(0, 8), 0);
        Check.due("one sings, one waits", x.come(0, 9), 1);
        singsDue(x, "behind three who came", 7, -1);
        Check.due("nobody sings in the other room", x.come(1, 6), -1);
        x.leave(6);
        Check.due("nobody sings there any more", x.come(1, 5), -1);
        x.come(1, 6);
        x.leave(6);
        Check.due("nobody waits there any more", x.come(1, 6), 0);
    }

    /** At most 6 [wait]. come throws IllegalStateException if .. 6 wait. */
    private static void atMostSixWait() {
        EchoParlour x = parlour(4);
        come(x, 3, 9, 8, 7, 6, 5, 4, 3);
        Check.throwsDue("the seventh who would wait", Check.STATE, () -> x.come(3, 2));
        Check.throwsDue("another one", Check.STATE, () -> x.come(3, 0));
        Check.throwsDue("leave of one who was refused", Check.STATE, () -> x.leave(2));
        Check.due("who was refused may come to another room", x.come(0, 2), -1);
        Check.due("and may be waited for there", x.come(0, 0), 0);
        singsDue(x, "behind all", 2, -1, -1, 9);
    }

    private static void aPlaceAmongTheSixIsFreeAgain() {
        int[] whoLeaves = {0, 1, 4, 6};
        for (int leaves : whoLeaves) {
            EchoParlour x = parlour(1);
            come(x, 0, 0, 1, 2, 3, 4, 5, 6);
            x.leave(leaves);
            Check.due("five wait ahead when " + leaves + " left", x.come(0, 7), 5);
            Check.throwsDue("six wait again", Check.STATE, () -> x.come(0, 8));
        }
        EchoParlour x = parlour(1);
        come(x, 0, 0, 1, 2, 3, 4, 5, 6);
        Check.due("pass", x.pass(), 1);
        Check.due("five wait ahead behind an hour", x.come(0, 7), 5);
        Check.throwsDue("six wait again", Check.STATE, () -> x.come(0, 8));
    }

    /** Nobody is in two rooms, or twice in one. */
    private static void nobodyIsInTwoRooms() {
        EchoParlour x = parlour(4);
        come(x, 1, 0, 1, 2);
        for (int room = 0; room < 4; room++) {
            int each = room;
            for (int singer = 0; singer <= 2; singer++) {
                int again = singer;
                Check.throwsDue("come(" + room + ", " + singer + ")", Check.STATE, () -> x.come(each, again));
            }
        }
        singsDue(x, "behind those who were refused", -1, 0, -1, -1);
        Check.due("another one may come", x.come(1, 3), 2);
        x.leave(1);
        Check.due("who left may come elsewhere", x.come(0, 1), -1);
    }

    /** leave throws IndexOutOfBoundsException as told: there is no such singer. */
    private static void leaveSingerInRange() {
        EchoParlour x = parlour(1);
        for (int singer : NO_SINGER) {
            Check.throwsDue("leave(" + singer + ")", Check.INDEX, () -> x.leave(singer));
        }
        come(x, 0, 0, 9);
        for (int singer : NO_SINGER) {
            Check.throwsDue("leave(" + singer + ") of two", Check.INDEX, () -> x.leave(singer));
        }
        Check.due("leave(9)", x.leave(9), 0);
        Check.due("leave(0)", x.leave(0), 0);
    }

    /** leave throws IllegalStateException if the singer is nowhere. */
    private static void leaveOfNobody() {
        for (int singer = 0; singer <= 9; singer++) {
            int nobody = singer;
            EchoParlour x = parlour(1);
            Check.throwsDue("leave(" + singer + "), never come", Check.STATE, () -> x.leave(nobody));
            come(x, 0, singer);
            x.leave(singer);
            Check.throwsDue("leave(" + singer + "), left", Check.STATE, () -> x.leave(nobody));
            come(x, 0, singer, (singer + 1) % 10);
            x.pass();
            Check.throwsDue("leave(" + singer + "), gone by an hour", Check.STATE, () -> x.leave(nobody));
        }
    }

    /** Lets a singer leave; the first one who waits sings there, if the singer sang. */
    private static void leaveOfOneWhoSings() {
        EchoParlour x = parlour(1);
        come(x, 0, 6, 5, 4, 3, 2, 1, 0);
        for (int singer = 6; singer >= 0; singer--) {
            singsDue(x, "ahead of leave(" + singer + ")", singer);
            Check.due("leave(" + singer + ")", x.leave(singer), 0);
        }
        singsDue(x, "when all have left", -1);
        Check.due("pass when all have left", x.pass(), 0);
        Check.due("who comes then", x.come(0, 3), -1);
    }

    /** The first one who waits sings there, if the singer sang: otherwise who sings there stays. */
    private static void leaveOfOneWhoWaits() {
        int[][] order = {{1, 2, 3, 4, 5, 6}, {6, 5, 4, 3, 2, 1}, {3, 6, 1, 5, 2, 4}};
        for (int[] each : order) {
            EchoParlour x = parlour(1);
            come(x, 0, 0, 1, 2, 3, 4, 5, 6);
            for (int singer : each) {
                Check.due("leave(" + singer + ")", x.leave(singer), 0);
                singsDue(x, "behind leave(" + singer + ")", 0);
            }
            Check.due("nobody waits", x.pass(), 0);
            singsDue(x, "behind an hour", 0);
        }
        for (int leaves = 1; leaves <= 6; leaves++) {
            EchoParlour x = parlour(1);
            come(x, 0, 0, 1, 2, 3, 4, 5, 6);
            x.leave(leaves);
            for (int next = 1; next <= 6; next++) {
                if (next != leaves) {
                    Check.due("an hour", x.pass(), 1);
                    singsDue(x, "in their order, " + leaves + " having left", next);
                }
            }
            Check.due("an hour, nobody waits", x.pass(), 0);
        }
    }

    /** leave returns the room in which the singer was, or for which the singer waited. */
    private static void leaveTellsTheRoom() {
        EchoParlour x = parlour(4);
        for (int room = 0; room < 4; room++) {
            come(x, room, room, room + 4);
        }
        for (int room = 3; room >= 0; room--) {
            Check.due("who waits", x.leave(room + 4), room);
            Check.due("who sings", x.leave(room), room);
        }
    }

    /** pass returns in how many rooms another one sings then. */
    private static void passOfNoRooms() {
        EchoParlour x = new EchoParlour();
        Check.due("no rooms", x.pass(), 0);
        x.room();
        Check.due("an empty room", x.pass(), 0);
        singsDue(x, "behind an hour", -1);
    }

    private static void passOfNoneToFourRooms() {
        for (int waitedFor = 0; waitedFor < 16; waitedFor++) {
            EchoParlour x = parlour(4);
            int due = 0;
            for (int room = 0; room < 4; room++) {
                x.come(room, room);
                if ((waitedFor >> room & 1) == 1) {
                    x.come(room, room + 4);
                    due++;
                }
            }
            Check.due("pass, rooms " + waitedFor, x.pass(), due);
            for (int room = 0; room < 4; room++) {
                boolean isAnother = (waitedFor >> room & 1) == 1;
                Check.due("sings(" + room + ")", x.sings(room), isAnother ? room + 4 : room);
            }
            Check.due("pass again, nobody waits", x.pass(), 0);
        }
    }

    /** For which somebody waits who sings there goes, and the first one who waits sings there; otherwise .. stays. */
    private static void passUntilNobodyWaits() {
        EchoParlour x = parlour(1);
        come(x, 0, 0, 9, 1, 8, 2, 7, 3);
        int[] due = {9, 1, 8, 2, 7, 3};
        for (int singer : due) {
            Check.due("an hour", x.pass(), 1);
            singsDue(x, "behind an hour", singer);
        }
        for (int i = 0; i < 3; i++) {
            Check.due("an hour, nobody waits", x.pass(), 0);
            singsDue(x, "behind an hour, nobody waited", 3);
        }
    }

    private static void whoWentMayComeAgain() {
        EchoParlour x = parlour(2);
        come(x, 0, 0, 1);
        x.pass();
        Check.due("behind the one who sings", x.come(0, 0), 0);
        x.pass();
        singsDue(x, "behind two hours", 0, -1);
        Check.due("to another room", x.come(1, 1), -1);
    }

    /** Two songs of two notes, and the plays 0, 1, 0 in room 0, where 5 sings; 6 waits. */
    private static EchoParlour withPlays() {
        EchoParlour x = parlour(2);
        Check.makeSong(x, "one", 2);
        Check.makeSong(x, "two", 2);
        come(x, 0, 5, 6);
        x.queue(0, 0);
        x.queue(0, 1);
        x.queue(0, 0);
        return x;
    }

    private static void queueDue(EchoParlour x, String when, int... due) {
        for (int place = 0; place < due.length; place++) {
            Check.due("queued(0, " + place + ") " + when, x.queued(0, place), due[place]);
        }
        Check.due("the end of the queue " + when, x.queued(0, due.length), -1);
    }

    /** Who .. leaves, and sang there, lets the play that goes on fall out, if a note of it was sung. */
    private static void whoLeavesDropsABegunPlay() {
        EchoParlour x = withPlays();
        x.leave(5);
        queueDue(x, "behind one who sang no note", 0, 1, 0);
        x.sing(0, 0);
        x.leave(6);
        queueDue(x, "behind one who sang a note", 1, 0);
        singsDue(x, "behind the last who left", -1);
        come(x, 0, 5);
        x.sing(0, 0);
        Check.due("a play is over", x.sing(0, 0), 1100);
        x.leave(5);
        queueDue(x, "behind one who sang a play to its end", 0);
        come(x, 0, 5, 6);
        x.sing(0, 0);
        x.leave(6);
        queueDue(x, "behind one who waited", 0);
        Check.due("the play goes on", x.sing(0, 0), 1100);
        Check.due("plays of the song that were over", x.about(0, 3), 1);
    }

    /** Who goes .. and sang there, lets the play that goes on fall out, if a note of it was sung. */
    private static void whoGoesDropsABegunPlay() {
        EchoParlour x = withPlays();
        x.pass();
        queueDue(x, "behind one who sang no note", 0, 1, 0);
        x.sing(0, 0);
        x.pass();
        queueDue(x, "behind one who stays, as nobody waits", 0, 1, 0);
        x.come(0, 5);
        x.pass();
        queueDue(x, "behind one who sang a note", 1, 0);
        x.sing(0, 0);
        Check.due("a play is over", x.sing(0, 0), 1100);
        x.come(0, 6);
        x.pass();
        queueDue(x, "behind one who sang a play to its end", 0);
        x.sing(0, 0);
        x.come(0, 5);
        x.pass();
        queueDue(x, "behind one who sang of the last play");
        Check.throwsDue("no play is queued", Check.STATE, () -> x.sing(0, 0));
    }

    /** If a note of it was sung: whatever the note is worth. */
    private static void aNoteWorthNothingIsSungToo() {
        EchoParlour x = withPlays();
        Check.due("a note", x.sing(0, 600), 0);
        x.leave(5);
        queueDue(x, "behind a note worth nothing", 1, 0);
        Check.due("a note", x.sing(0, 600), 0);
        x.come(0, 5);
        x.pass();
        queueDue(x, "behind a note worth nothing and an hour", 0);
    }

    /** Other plays stay in the queue: they begin with their first note. */
    private static void otherPlaysStay() {
        EchoParlour x = parlour(1);
        Check.makeSong(x, "long", 16);
        Check.makeSong(x, "short", new int[][] {{5, 1, 1}, {0, 1, 1}});
        come(x, 0, 0);
        for (int i = 0; i < 8; i++) {
            x.queue(0, i == 0 ? 0 : 1);
        }
        for (int i = 0; i < 15; i++) {
            Check.due("note " + i, x.sing(0, 0), 100);
        }
        x.leave(0);
        queueDue(x, "behind one who sang all notes but one", 1, 1, 1, 1, 1, 1, 1);
        come(x, 0, 0);
        Check.due("the first note of the next", x.sing(0, 500), 100);
        Check.due("the last note of the next, its score alone", x.sing(0, 250), 1075);
        Check.due("plays of the long song", x.about(0, 3), 0);
        Check.due("plays of the short song", x.about(1, 3), 1);
    }

    private static void otherRoomsStay() {
        EchoParlour x = withPlays();
        come(x, 1, 0);
        x.queue(1, 0);
        x.sing(1, 0);
        x.sing(0, 0);
        Check.due("an hour", x.pass(), 1);
        queueDue(x, "in the room of one who went", 1, 0);
        Check.due("queued(1, 0)", x.queued(1, 0), 0);
        x.sing(0, 0);
        x.leave(6);
        queueDue(x, "in the room of one who left", 0);
        Check.due("the play of the other room goes on", x.sing(1, 0), 1100);
    }

    /** sings throws IndexOutOfBoundsException as told. */
    private static void singsRoomInRange() {
        EchoParlour x = parlour(2);
        come(x, 1, 3);
        for (int room : NO_ROOM) {
            Check.throwsDue("sings(" + room + ")", Check.INDEX, () -> x.sings(room));
        }
        singsDue(x, "in the rooms that there are", -1, 3);
    }

    /** sings returns .. NONE if nobody does. */
    private static void singsOfNobody() {
        EchoParlour x = parlour(1);
        singsDue(x, "in a new room", -1);
        come(x, 0, 0);
        singsDue(x, "when singer 0 has come", 0);
        x.leave(0);
        singsDue(x, "when singer 0 has left", -1);
        come(x, 0, 9);
        singsDue(x, "when singer 9 has come", 9);
    }
}
