/** A house of singing rooms: songs, singers who wait and stay on, plays that are judged, and writers who are paid. */
public final class EchoParlour {
    /** There is none. */
    public static final int NONE = -1;

    private static final int MOST_LETTERS = 8;
    private static final int MOST_SYLLABLES = 16;
    private static final int MOST_NOTES = 16;
    private static final int HIGHEST_PITCH = 24;
    private static final int MOST_BEATS = 4;
    private static final int MOST_SONGS = 10;

    private static final int MOST_ROOMS = 4;
    private static final int SINGERS = 10;
    private static final int MOST_WAITING = 6;

    private static final int MOST_PLAYS = 8;
    private static final int MOST_CENTS = 2400;
    private static final int CENTS_A_PITCH = 100;
    private static final int OCTAVE = 1200;
    private static final int HALF_OCTAVE = 600;
    private static final int CENTS_A_POINT = 5;
    private static final int BEST_WORTH = 100;
    private static final int EASY_STRAIN = 12;
    private static final int POINTS_A_BEAT = 2;
    private static final int LAST_NOTE = 1000;

    private static final int WRITERS = 6;
    private static final int ALL_SHARES = 100;
    private static final int PAY = 100;
    // An object lasts for 512 calls, and a play that is over took at least two: one queued it, one sang it.
    private static final int MOST_PLAYS_PAID = 256;

    private static final int ABOUT_NOTES = 0;
    private static final int ABOUT_STRAIN = 1;
    private static final int ABOUT_BEST = 2;
    private static final int ABOUT_OVER = 3;
    private static final int ABOUT_DISPUTED = 4;

    private final StringBuilder typed;
    private final Song[] songs;
    private final Room[] rooms;
    private final Ledger ledger;
    private Tune draft;
    private int songCount;
    private int roomCount;

    public EchoParlour() {
        typed = new StringBuilder();
        songs = new Song[MOST_SONGS];
        rooms = new Room[MOST_ROOMS];
        ledger = new Ledger();
        draft = new Tune();
    }

    // ---- songs

    /** Adds a letter to the word that is typed; returns how many it has then. */
    public int letter(char letter) throws IllegalArgumentException, IllegalStateException {
        if (letter < 'a' || letter > 'z') {
            throw new IllegalArgumentException("a letter is one of a to z");
        }
        if (typed.length() >= MOST_LETTERS) {
            throw new IllegalStateException("the word has all its letters");
        }
        typed.append(letter);
        return typed.length();
    }

    /** Lays the word that is typed under the draft; returns how many syllables the draft has then. */
    public int word() throws IllegalStateException {
        if (typed.length() == 0) {
            throw new IllegalStateException("nothing is typed");
        }
        int syllables = draft.syllables + syllablesOf(typed);
        if (syllables > MOST_SYLLABLES) {
            throw new IllegalStateException("the draft would have too many syllables");
        }
        draft.syllables = syllables;
        typed.setLength(0);
        return syllables;
    }

    /** Adds a note to the draft; returns how many notes it has then. */
    public int note(int pitch, int beats, boolean hasBreath) throws IllegalArgumentException, IllegalStateException {
        if (pitch < 0 || pitch > HIGHEST_PITCH) {
            throw new IllegalArgumentException("a pitch is 0 to 24");
        }
        if (beats < 1 || beats > MOST_BEATS) {
            throw new IllegalArgumentException("a note has 1 to 4 beats");
        }
        if (draft.notes >= MOST_NOTES) {
            throw new IllegalStateException("the draft has all its notes");
        }
        draft.addNote(pitch, beats, hasBreath);
        return draft.notes;
    }

    /** Makes the draft a song with the word that is typed as its title; returns its number. */
    public int song() throws IllegalStateException {
        if (typed.length() == 0) {
            throw new IllegalStateException("nothing is typed");
        }
        if (!draft.canBeSong()) {
            throw new IllegalStateException("the draft can be no song");
        }
        if (songCount < 0 || songCount >= songs.length) {
            throw new IllegalStateException("there are all the songs");
        }
        String title = typed.toString();
        if (numberOfTitle(title) != NONE) {
            throw new IllegalStateException("there is a song with the title");
        }
        int number = songCount;
        songs[number] = new Song(title, draft);
        songCount = number + 1;
        draft = new Tune();
        typed.setLength(0);
        return number;
    }

    /** Finds the song in the lists with the word that is typed as its title; NONE if there is none. */
    public int find() {
        if (typed.length() == 0) {
            return NONE;
        }
        int number = numberOfTitle(typed.toString());
        Song found = songAt(number);
        return found == null || found.isDisputed ? NONE : number;
    }

    /** Tells of a song: 0 how many notes, 1 its strain, 2 its best score, 3 its plays that were over, 4 disputed. */
    public int about(int song, int what) throws IndexOutOfBoundsException, IllegalArgumentException {
        Song asked = songAt(song);
        if (asked == null) {
            throw new IndexOutOfBoundsException("there is no such song");
        }
        switch (what) {
            case ABOUT_NOTES:
                return asked.tune.notes;
            case ABOUT_STRAIN:
                return asked.tune.strain;
            case ABOUT_BEST:
                return asked.bestScore;
            case ABOUT_OVER:
                return asked.playsOver;
            case ABOUT_DISPUTED:
                return asked.isDisputed ? 1 : 0;
            default:
                throw new IllegalArgumentException("what is 0 to 4");
        }
    }

    // ---- rooms

    /** Opens a room; returns its number. */
    public int room() throws IllegalStateException {
        if (roomCount < 0 || roomCount >= rooms.length) {
            throw new IllegalStateException("there are all the rooms");
        }
        int number = roomCount;
        rooms[number] = new Room();
        roomCount = number + 1;
        return number;
    }

    /** Lets a singer come to a room; returns how many wait ahead, NONE if the singer sings there. */
    public int come(int room, int singer) throws IndexOutOfBoundsException, IllegalStateException {
        Room entered = roomAt(room);
        if (entered == null) {
            throw new IndexOutOfBoundsException("there is no such room");
        }
        if (!isSinger(singer)) {
            throw new IndexOutOfBoundsException("there is no such singer");
        }
        if (roomOfSinger(singer) != NONE) {
            throw new IllegalStateException("the singer is in a room, or waits for one");
        }
        if (entered.waiting.isFull()) {
            throw new IllegalStateException("as many wait as may");
        }
        return entered.letIn(singer);
    }

    /** Lets a singer leave; returns the room in which the singer was, or for which the singer waited. */
    public int leave(int singer) throws IndexOutOfBoundsException, IllegalStateException {
        if (!isSinger(singer)) {
            throw new IndexOutOfBoundsException("there is no such singer");
        }
        int number = roomOfSinger(singer);
        Room left = roomAt(number);
        if (left == null) {
            throw new IllegalStateException("the singer is nowhere");
        }
        if (left.singer == singer) {
            left.letNextSing();
        } else {
            left.waiting.removeAt(left.waiting.placeOf(singer));
        }
        return number;
    }

    /** Lets an hour go by; returns in how many rooms another one sings then. */
    public int pass() {
        int changed = 0;
        for (int i = 0; i < rooms.length; i++) {
            Room each = rooms[i];
            if (each != null && each.waiting.count > 0) {
                each.letNextSing();
                changed++;
            }
        }
        return changed;
    }

    /** Returns who sings in a room; NONE if nobody does. */
    public int sings(int room) throws IndexOutOfBoundsException {
        Room asked = roomAt(room);
        if (asked == null) {
            throw new IndexOutOfBoundsException("there is no such room");
        }
        return asked.singer;
    }

    // ---- plays

    /** Queues a play; returns how many plays are queued then. */
    public int queue(int room, int song) throws IndexOutOfBoundsException, IllegalStateException {
        Room host = roomAt(room);
        if (host == null) {
            throw new IndexOutOfBoundsException("there is no such room");
        }
        Song wanted = songAt(song);
        if (wanted == null) {
            throw new IndexOutOfBoundsException("there is no such song");
        }
        if (host.plays.isFull()) {
            throw new IllegalStateException("as many plays are queued as may");
        }
        if (wanted.isDisputed) {
            throw new IllegalStateException("the song is disputed");
        }
        host.plays.append(song);
        return host.plays.count;
    }

    /** Sings a note of the play that goes on; returns what it is worth, after the last one 1000 and the score. */
    public int sing(int room, int cents) throws IndexOutOfBoundsException, IllegalArgumentException,
            IllegalStateException {
        Room stage = roomAt(room);
        if (stage == null) {
            throw new IndexOutOfBoundsException("there is no such room");
        }
        if (cents < 0 || cents > MOST_CENTS) {
            throw new IllegalArgumentException("cents are 0 to 2400");
        }
        if (stage.singer == NONE) {
            throw new IllegalStateException("nobody sings in the room");
        }
        Song sung = songAt(stage.plays.at(0));
        if (sung == null) {
            throw new IllegalStateException("no play is queued");
        }
        int worth = worthOf(sung.tune.pitchAt(stage.notesSung), cents);
        stage.addWorth(worth);
        if (stage.notesSung < sung.tune.notes) {
            return worth;
        }
        return LAST_NOTE + endPlay(stage, sung);
    }

    /** Returns the song at a place of the queue of a room; NONE if there are not so many. */
    public int queued(int room, int place) throws IndexOutOfBoundsException {
        Room asked = roomAt(room);
        if (asked == null) {
            throw new IndexOutOfBoundsException("there is no such room");
        }
        if (place < 0) {
            throw new IndexOutOfBoundsException("places are from 0");
        }
        return asked.plays.at(place);
    }

    // ---- writers

    /** Tells the share of a writer; returns the share before. */
    public int claim(int song, int writer, int share) throws IndexOutOfBoundsException, IllegalArgumentException,
            IllegalStateException {
        Song claimed = songAt(song);
        if (claimed == null) {
            throw new IndexOutOfBoundsException("there is no such song");
        }
        if (!isWriter(writer) || writer >= claimed.shares.length) {
            throw new IndexOutOfBoundsException("there is no such writer");
        }
        if (share < 0 || share > ALL_SHARES) {
            throw new IllegalArgumentException("a share is 0 to 100");
        }
        int before = claimed.shares[writer];
        if (claimed.sharesTogether() - before + share > ALL_SHARES) {
            throw new IllegalStateException("all shares would be above 100 together");
        }
        claimed.shares[writer] = share;
        return before;
    }

    /** Tells that a song is disputed, or settled; returns how many plays fall out. */
    public int dispute(int song, boolean is) throws IndexOutOfBoundsException {
        Song told = songAt(song);
        if (told == null) {
            throw new IndexOutOfBoundsException("there is no such song");
        }
        told.isDisputed = is;
        return is ? dropPlaysOf(song) : 0;
    }

    /** Returns what a writer earned. */
    public int earned(int writer) throws IndexOutOfBoundsException {
        if (!isWriter(writer) || writer >= ledger.purses.length) {
            throw new IndexOutOfBoundsException("there is no such writer");
        }
        return ledger.purses[writer];
    }

    /** Returns what a writer earned, counted once more play by play. */
    public int earnedAnew(int writer) throws IndexOutOfBoundsException {
        if (!isWriter(writer)) {
            throw new IndexOutOfBoundsException("there is no such writer");
        }
        return ledger.countAnew(writer);
    }

    // ---- what the calls above share

    private static boolean isSinger(int singer) {
        return singer >= 0 && singer < SINGERS;
    }

    private static boolean isWriter(int writer) {
        return writer >= 0 && writer < WRITERS;
    }

    private static boolean isVowel(char letter) {
        return letter == 'a' || letter == 'e' || letter == 'i' || letter == 'o' || letter == 'u';
    }

    private static int syllablesOf(StringBuilder letters) {
        int rows = 0;
        boolean isInRow = false;
        for (int i = 0; i < letters.length(); i++) {
            boolean isVowel = isVowel(letters.charAt(i));
            if (isVowel && !isInRow) {
                rows++;
            }
            isInRow = isVowel;
        }
        return Math.max(rows, 1);
    }

    /** The song of that number, null if there is none. */
    private Song songAt(int number) {
        return number >= 0 && number < songs.length ? songs[number] : null;
    }

    /** The room of that number, null if there is none. */
    private Room roomAt(int number) {
        return number >= 0 && number < rooms.length ? rooms[number] : null;
    }

    /** The number of the song of that title, disputed or not; NONE if there is none. */
    private int numberOfTitle(String title) {
        for (int i = 0; i < songs.length; i++) {
            Song each = songs[i];
            if (each != null && each.title.equals(title)) {
                return i;
            }
        }
        return NONE;
    }

    /** The room in which the singer sings, or for which the singer waits; NONE if the singer is nowhere. */
    private int roomOfSinger(int singer) {
        for (int i = 0; i < rooms.length; i++) {
            Room each = rooms[i];
            if (each != null && (each.singer == singer || each.waiting.placeOf(singer) != NONE)) {
                return i;
            }
        }
        return NONE;
    }

    private static int worthOf(int pitch, int cents) {
        int distance = Math.abs(cents - CENTS_A_PITCH * pitch) % OCTAVE;
        if (distance > HALF_OCTAVE) {
            distance = OCTAVE - distance;
        }
        return Math.max(0, BEST_WORTH - distance / CENTS_A_POINT);
    }

    /** Ends the play that goes on, all of its notes being sung; returns its score. */
    private int endPlay(Room stage, Song sung) {
        int score = sung.tune.scoreOf(stage.worthSung);
        stage.dropPlay(0);
        sung.playsOver++;
        sung.bestScore = Math.max(sung.bestScore, score);
        ledger.payPlay(sung.shares);
        return score;
    }

    private int dropPlaysOf(int song) {
        int dropped = 0;
        for (int i = 0; i < rooms.length; i++) {
            Room each = rooms[i];
            if (each != null) {
                dropped += each.dropPlaysOf(song);
            }
        }
        return dropped;
    }

    /** Notes with syllables under them: the draft, and what a song is made of. */
    private static final class Tune {
        private final int[] pitches;
        private int notes;
        private int syllables;
        private int beatsSinceBreath;
        private int strain;

        private Tune() {
            pitches = new int[MOST_NOTES];
        }

        private void addNote(int pitch, int beats, boolean hasBreath) {
            if (notes < 0 || notes >= pitches.length) {
                return;
            }
            pitches[notes] = pitch;
            notes++;
            beatsSinceBreath += beats;
            strain = Math.max(strain, beatsSinceBreath);
            if (hasBreath) {
                beatsSinceBreath = 0;
            }
        }

        private boolean canBeSong() {
            return notes > 0 && syllables == notes;
        }

        private int pitchAt(int place) {
            return place >= 0 && place < pitches.length ? pitches[place] : 0;
        }

        private int scoreOf(int worthSung) {
            if (notes <= 0) {
                return 0;
            }
            int tooLong = Math.max(0, strain - EASY_STRAIN);
            return Math.max(0, worthSung / notes - POINTS_A_BEAT * tooLong);
        }
    }

    /** A tune with a title, and what became of it. */
    private static final class Song {
        private final String title;
        private final Tune tune;
        private final int[] shares;
        private int bestScore;
        private int playsOver;
        private boolean isDisputed;

        private Song(String title, Tune tune) {
            this.title = title;
            this.tune = tune;
            shares = new int[WRITERS];
            bestScore = NONE;
        }

        private int sharesTogether() {
            int together = 0;
            for (int i = 0; i < shares.length; i++) {
                together += shares[i];
            }
            return together;
        }
    }

    /** Numbers from 0 in a line, one behind the other, up to a limit. */
    private static final class Line {
        private final int[] members;
        private int count;

        private Line(int limit) {
            members = new int[Math.max(0, limit)];
        }

        private boolean isFull() {
            return count >= members.length;
        }

        private void append(int member) {
            if (count >= 0 && count < members.length) {
                members[count] = member;
                count++;
            }
        }

        /** The one at that place, NONE if there are not so many. */
        private int at(int place) {
            return place >= 0 && place < count && place < members.length ? members[place] : NONE;
        }

        private int placeOf(int member) {
            for (int i = 0; i < members.length; i++) {
                if (i < count && members[i] == member) {
                    return i;
                }
            }
            return NONE;
        }

        private void removeAt(int place) {
            if (place < 0 || place >= count) {
                return;
            }
            for (int i = place; i < members.length - 1; i++) {
                members[i] = members[i + 1];
            }
            count--;
        }
    }

    /** Who sings, who waits, which plays are queued, and how far the first of them has got. */
    private static final class Room {
        private final Line waiting;
        private final Line plays;
        private int singer;
        private int notesSung;
        private int worthSung;

        private Room() {
            waiting = new Line(MOST_WAITING);
            plays = new Line(MOST_PLAYS);
            singer = NONE;
        }

        /** Returns how many wait ahead, NONE if the one who comes sings. */
        private int letIn(int comer) {
            if (singer == NONE) {
                singer = comer;
                return NONE;
            }
            waiting.append(comer);
            return waiting.count - 1;
        }

        /** Lets who sings go, if need be with the play that was begun; the first one who waits sings then. */
        private void letNextSing() {
            if (notesSung > 0) {
                dropPlay(0);
            }
            singer = waiting.at(0);
            waiting.removeAt(0);
        }

        private void addWorth(int worth) {
            notesSung++;
            worthSung += worth;
        }

        private void dropPlay(int place) {
            plays.removeAt(place);
            // Only the first play has notes that were sung; the next one begins anew.
            if (place == 0) {
                notesSung = 0;
                worthSung = 0;
            }
        }

        private int dropPlaysOf(int song) {
            int dropped = 0;
            // From behind, so that no play moves to a place that is still to be looked at.
            for (int place = MOST_PLAYS - 1; place >= 0; place--) {
                if (plays.at(place) == song) {
                    dropPlay(place);
                    dropped++;
                }
            }
            return dropped;
        }
    }

    /** What the writers have, and by which shares each play was paid. */
    private static final class Ledger {
        private final int[] purses;
        private final int[] sharesNoted;
        private int playsNoted;

        private Ledger() {
            purses = new int[WRITERS];
            sharesNoted = new int[MOST_PLAYS_PAID * WRITERS];
        }

        private void payPlay(int[] shares) {
            noteShares(shares);
            for (int i = 0; i < purses.length; i++) {
                purses[i] += payOf(shares, 0, i);
            }
        }

        private void noteShares(int[] shares) {
            int from = playsNoted * WRITERS;
            if (shares.length < WRITERS || from < 0 || from > sharesNoted.length - WRITERS) {
                return;
            }
            System.arraycopy(shares, 0, sharesNoted, from, WRITERS);
            playsNoted++;
        }

        private int countAnew(int writer) {
            int sum = 0;
            for (int play = 0; play < playsNoted; play++) {
                sum += payOf(sharesNoted, play * WRITERS, writer);
            }
            return sum;
        }

        /** What a play pays a writer, if the shares are those in the row of the table that begins at that index. */
        private static int payOf(int[] table, int from, int writer) {
            if (!isWriter(writer) || from < 0 || from > table.length - WRITERS) {
                return 0;
            }
            int together = 0;
            for (int i = 0; i < WRITERS; i++) {
                together += table[from + i];
            }
            if (together <= 0) {
                return 0;
            }
            int whole = PAY * table[from + writer] / together;
            int remainder = PAY * table[from + writer] % together;
            int missing = PAY;
            int ahead = 0;
            for (int i = 0; i < WRITERS; i++) {
                missing -= PAY * table[from + i] / together;
                int other = PAY * table[from + i] % together;
                if (other > remainder || other == remainder && i < writer) {
                    ahead++;
                }
            }
            return ahead < missing ? whole + 1 : whole;
        }
    }
}
