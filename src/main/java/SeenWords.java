import java.util.ArrayList;
import java.util.Arrays;

/** Texts that are never copied: words lie where they were put, writings are rows of pieces that show them. */
public final class SeenWords {
    public static final int UNKNOWN = -1, OUTSIDE = -2, STATE = -3, FULL = -4, GAP = -7, NONE = -9;
    public static final long LOST = Long.MIN_VALUE;

    private static final int FAULT_NULL = 1, FAULT_CAST = 2, FAULT_INDEX = 3, FAULT_SIZE = 4;
    private static final int FAULTS_FROM = -10, WRONG_FROM = -100, OWNED = 99;

    private static final int HANDS = 8, GROUPS = 4, WRITINGS = 12, PIECES = 24, WORDS = 500, PLACES = 300;
    private static final int VERSIONS = 16, CLASHES = 12, LINKS = 24, RIGHTS = 20, SHEETS = 4, CELLS = 60, LANES = 3;
    private static final int HITS = 200, LEAVES = 512, LEVELS = 9;

    private static final int OWN = 0, SEEN = 1, SPAN = 2, LIVE = 3;
    private static final int LINK = 0, NOTE = 1, REPLY = 2, SAME = 3, CORRECT = 4, KINDS = 5;
    private static final int READ = 0, QUOTE = 1, LEND = 2, USES = 3;

    /** How many spans and lives may stand one within the other before one shows a gap. */
    private static final int NESTED = 4;
    /** More moments than the 512 calls of an object can make; later acts stay at the last one. */
    private static final int MOMENTS = 600;
    /** Behind all moments. */
    private static final int NEVER = 2147483647;

    private int now;
    private int hands;
    private final int[] stamps = new int[MOMENTS];
    /** The four groups of each moment, eight bits each. */
    private final int[] groupsAt = new int[MOMENTS];
    private final Texts texts = new Texts();
    private final ArrayList<Version> versions = new ArrayList<>();
    private final ArrayList<Clash> clashes = new ArrayList<>();
    private final ArrayList<Link> links = new ArrayList<>();
    private final ArrayList<Right> rights = new ArrayList<>();
    private final Sheet[] sheets = new Sheet[SHEETS];
    private final Weave weave = new Weave();
    private final int[] debts = new int[HANDS * HANDS];
    /** 100 times the price, and the share: as rule() tells it. */
    private int terms = 1003;
    /** Hits as one number each: ((links * VERSIONS) + version) * PLACES + place. */
    private final int[] found = new int[VERSIONS * PLACES];
    private final int[] kept = new int[HITS];
    private int keptCount;
    /** The rows of a seal as a tree: 1 is its last number, the children of k are 2k and 2k + 1. */
    private final int[] tree = new int[2 * LEAVES];
    private int trail;
    private int latestFault;

    public SeenWords() {
        for (int k = 0; k < SHEETS; k++) {
            sheets[k] = new Sheet();
        }
    }

    // ---- 1 hands, writings

    public int hand() {
        if (hands >= HANDS) {
            return FULL;
        }
        hands++;
        return acted(hands - 1);
    }

    public int group(int g, int set) {
        if (!within(g, GROUPS)) {
            return UNKNOWN;
        }
        if (set >>> hands != 0) {
            return OUTSIDE;
        }
        int was = groupAsOf(g, now);
        int others = groupsAt[now] & ~(255 << (8 * g));
        acted(was);
        groupsAt[now] = others | (set << (8 * g));
        return was;
    }

    public int writing(int hand) {
        if (!isHand(hand)) {
            return UNKNOWN;
        }
        if (texts.isFull()) {
            return FULL;
        }
        return acted(texts.begin(hand, now + 1));
    }

    public int put(int w, int at, int sheet, int lane, int i, int n) {
        latestFault = 0;
        if (!takesAhead(w, at) || !within(sheet, SHEETS)) {
            return UNKNOWN;
        }
        int refused = refusedCells(sheet, lane, i, n);
        if (refused != 0) {
            return refused;
        }
        if (n == 0 || !sheets[sheet].areCodes(i, n)) {
            return OUTSIDE;
        }
        int first = texts.wordCount();
        if (n > WORDS - first || !texts.bring(w, at, new Piece(OWN, first, n, NONE, NONE), now)) {
            return FULL;
        }
        for (int c = 0; c < n; c++) {
            texts.addWord(sheets[sheet].cellAt(i + c), w, now + 1);
        }
        return acted(first);
    }

    public int seen(int w, int at, int f, int n) {
        if (!takesAhead(w, at)) {
            return UNKNOWN;
        }
        if (n < 1) {
            return OUTSIDE;
        }
        if (!texts.areWords(f, n)) {
            return UNKNOWN;
        }
        if ((texts.homesOf(f, n) & ~usable(texts.ownerOf(w), QUOTE, now)) != 0) {
            return STATE;
        }
        return showsWith(w, at, new Piece(SEEN, f, n, NONE, NONE));
    }

    public int span(int w, int at, int of, int moment, int a, int n) {
        if (!takesAhead(w, at) || !isWriting(of) || !isMoment(moment)) {
            return UNKNOWN;
        }
        if (!isStretch(a, n)) {
            return OUTSIDE;
        }
        if (!mayUse(texts.ownerOf(w), of, QUOTE, now)) {
            return STATE;
        }
        return showsWith(w, at, new Piece(SPAN, a, n, of, moment));
    }

    public int live(int w, int at, int of, int a, int n) {
        if (!takesAhead(w, at) || !isWriting(of)) {
            return UNKNOWN;
        }
        if (!isStretch(a, n)) {
            return OUTSIDE;
        }
        if (!mayUse(texts.ownerOf(w), of, QUOTE, now)) {
            return STATE;
        }
        int lives = texts.stepsBetween(of, w, true);
        if (lives != NONE) {
            return WRONG_FROM - lives;
        }
        return showsWith(w, at, new Piece(LIVE, a, n, of, NONE));
    }

    public int cut(int w, int from, int n) {
        if (!isPlaceOf(w, from)) {
            return UNKNOWN;
        }
        if (n < 1 || n > texts.sizeAsOf(w, now) - from) {
            return OUTSIDE;
        }
        if (!takeOut(w, from, n)) {
            return FULL;
        }
        return acted(texts.sizeAsOf(w, now + 1));
    }

    public int move(int w, int from, int n, int to) {
        if (!isPlaceOf(w, from) || !takesAhead(w, to)) {
            return UNKNOWN;
        }
        if (n < 1 || n > texts.sizeAsOf(w, now) - from) {
            return OUTSIDE;
        }
        if (to > from && to < from + n) {
            return STATE;
        }
        texts.lift(w, from, n, now);
        texts.bringLifted(to > from ? to - n : to, now);
        if (!texts.keepLaid(w, now + 1)) {
            return FULL;
        }
        return acted(texts.pieceCount(w));
    }

    public int again(int w, int moment) {
        if (!isWriting(w) || !isMoment(moment)) {
            return UNKNOWN;
        }
        texts.returnTo(w, moment, now + 1);
        return acted(texts.pieceCount(w));
    }

    public int length(int w, int moment) {
        if (!isWriting(w) || !isMoment(moment)) {
            return UNKNOWN;
        }
        return texts.sizeAsOf(w, moment);
    }

    public int shown(int w, int moment, int place) {
        if (!isWriting(w) || !isMoment(moment)) {
            return UNKNOWN;
        }
        Shown row = texts.shownOf(w, moment, 0);
        return within(place, row.size) ? row.places[place] : UNKNOWN;
    }

    public int pieces(int w) {
        return isWriting(w) ? texts.pieceCount(w) : UNKNOWN;
    }

    public int piece(int w, int p, int what) {
        if (!isWriting(w)) {
            return UNKNOWN;
        }
        Piece piece = texts.pieceAt(w, p);
        if (piece == null) {
            return UNKNOWN;
        }
        switch (what) {
            case 0: return piece.kind;
            case 1: return piece.first;
            case 2: return piece.count;
            case 3: return piece.of;
            case 4: return piece.moment;
            default: return OUTSIDE;
        }
    }

    public int word(int x, int what) {
        Word word = texts.wordAt(x);
        if (word == null) {
            return UNKNOWN;
        }
        switch (what) {
            case 0: return word.code;
            case 1: return word.hand;
            case 2: return word.home;
            case 3: return word.moment;
            case 4: return word.nth;
            default: return OUTSIDE;
        }
    }

    // ---- 2 versions

    public int version(int w) {
        if (!isWriting(w)) {
            return UNKNOWN;
        }
        if (versions.size() >= VERSIONS) {
            return FULL;
        }
        Shown row = texts.shownOf(w, now + 1, 0);
        versions.add(new Version(w, now + 1, Arrays.copyOf(row.places, row.size)));
        return acted(versions.size() - 1);
    }

    public int give(int v) {
        Version version = versionAt(v);
        if (version == null) {
            return UNKNOWN;
        }
        if (version.kind() != Version.DRAFT) {
            return STATE;
        }
        version.given = now + 1;
        return acted(version.places.length);
    }

    public int back(int v) {
        Version version = versionAt(v);
        if (version == null) {
            return UNKNOWN;
        }
        if (version.kind() != Version.GIVEN) {
            return STATE;
        }
        version.calledBack = now + 1;
        return acted(version.places.length);
    }

    public int about(int v, int what) {
        Version version = versionAt(v);
        if (version == null) {
            return UNKNOWN;
        }
        switch (what) {
            case 0: return version.kind();
            case 1: return version.writing;
            case 2: return version.moment;
            case 3: return version.places.length;
            case 4: return version.gaps();
            default: return OUTSIDE;
        }
    }

    public int at(int v, int place) {
        Version version = versionAt(v);
        if (version == null || !within(place, version.places.length)) {
            return UNKNOWN;
        }
        return version.places[place];
    }

    public int compare(int v, int u, int what) {
        Version one = versionAt(v);
        Version other = versionAt(u);
        if (one == null || other == null) {
            return UNKNOWN;
        }
        if (!within(what, 4)) {
            return OUTSIDE;
        }
        int shared = weave.sharedBy(one.places, other.places);
        switch (what) {
            case 1: return one.places.length - shared;
            case 2: return other.places.length - shared;
            case 3: return weave.commonTo(one.places, other.places) - shared;
            default: return shared;
        }
    }

    public int join(int v, int u, int c) {
        Version one = versionAt(v);
        Version other = versionAt(u);
        Version base = versionAt(c);
        if (one == null || other == null || base == null) {
            return UNKNOWN;
        }
        if (texts.isFull()) {
            return FULL;
        }
        weave.weaveBy(one.places, other.places, base.places);
        if (weave.runs() > PIECES || weave.clashCount > CLASHES - clashes.size()) {
            return FULL;
        }
        int w = texts.begin(texts.ownerOf(one.writing), now + 1);
        texts.layRuns(weave.joined, weave.joinedSize);
        texts.keepLaid(w, now + 1);
        for (int k = 0; k < weave.clashCount; k++) {
            clashes.add(weave.clashAt(k, w));
        }
        return acted(w);
    }

    public int clash(int c, int what) {
        if (!within(c, clashes.size())) {
            return UNKNOWN;
        }
        Clash clash = clashes.get(c);
        switch (what) {
            case 0: return clash.writing;
            case 1: return clash.firstSize;
            case 2: return clash.words.length - clash.firstSize;
            case 3: return clash.settled ? 1 : 0;
            default: return OUTSIDE;
        }
    }

    public int settle(int c, int which) {
        if (!within(c, clashes.size())) {
            return UNKNOWN;
        }
        if (!within(which, 3)) {
            return OUTSIDE;
        }
        Clash clash = clashes.get(c);
        int place = clash.settled ? NONE : clash.placeIn(texts.shownOf(clash.writing, now, 0));
        if (place == NONE) {
            return STATE;
        }
        int all = clash.words.length;
        int from = which == 0 ? clash.firstSize : 0;
        int to = which == 1 ? clash.firstSize : all;
        if (!takeOut(clash.writing, place + from, to - from)) {
            return FULL;
        }
        clash.settled = true;
        return acted(to - from);
    }

    // ---- 3 links

    public int link(int kind, int f, int n, int g, int k) {
        latestFault = 0;
        if (!within(kind, KINDS) || n < 1 || (kind != REPLY && k < 1)) {
            return OUTSIDE;
        }
        if (!texts.areWords(f, n)) {
            return UNKNOWN;
        }
        return kind == REPLY ? reply(f, n, g) : linkOfWords(kind, f, n, g, k);
    }

    private int reply(int f, int n, int l) {
        Link note = linkAt(l);
        if (note == null) {
            return UNKNOWN;
        }
        if (!note.isA(NOTE)) {
            return failed(FAULT_CAST);
        }
        return keepLink(new Link(REPLY, f, n, note.firsts[0], note.counts[0], l));
    }

    private int linkOfWords(int kind, int f, int n, int g, int k) {
        if (!texts.areWords(g, k)) {
            return UNKNOWN;
        }
        if (kind == CORRECT && n == k && texts.codesAlike(f, g, n)) {
            return STATE;
        }
        return keepLink(new Link(kind, f, n, g, k, NONE));
    }

    private int keepLink(Link link) {
        if (links.size() >= LINKS) {
            return FULL;
        }
        links.add(link);
        return acted(links.size() - 1);
    }

    public int ofLink(int l, int what) {
        Link link = linkAt(l);
        if (link == null) {
            return UNKNOWN;
        }
        switch (what) {
            case 0: return link.kind;
            case 1: return link.firsts[0];
            case 2: return link.counts[0];
            case 3: return link.firsts[1];
            case 4: return link.counts[1];
            case 5: return link.note;
            default: return OUTSIDE;
        }
    }

    public int ends(int l, int end, int v) {
        Link link = linkAt(l);
        Version version = versionAt(v);
        if (link == null || version == null) {
            return UNKNOWN;
        }
        if (!within(end, 2)) {
            return OUTSIDE;
        }
        int parts = 0;
        int place = link.partFrom(end, version.places, 0);
        for (int k = 0; k < PLACES && place != NONE; k++) {
            parts++;
            place = link.partBehind(end, version.places, place);
        }
        return parts;
    }

    public int part(int l, int end, int v, int i, int what) {
        Link link = linkAt(l);
        Version version = versionAt(v);
        if (link == null || version == null || i < 0) {
            return UNKNOWN;
        }
        if (!within(end, 2) || !within(what, 3)) {
            return OUTSIDE;
        }
        int place = link.partFrom(end, version.places, 0);
        for (int k = 0; k < PLACES && k < i && place != NONE; k++) {
            place = link.partBehind(end, version.places, place);
        }
        if (place == NONE || i >= PLACES) {
            return UNKNOWN;
        }
        switch (what) {
            case 0: return place;
            case 1: return version.places[place];
            default: return link.partSize(end, version.places, place);
        }
    }

    // ---- 4 rights, readings

    public int right(int w, int sheet, int lane, int i, int n) {
        latestFault = 0;
        if (!isWriting(w) || !within(sheet, SHEETS)) {
            return UNKNOWN;
        }
        int refused = refusedCells(sheet, lane, i, n);
        if (refused != 0) {
            return refused;
        }
        Right right = new Right(w, now + 1);
        int wrong = right.readText(sheets[sheet], i, n);
        if (wrong != NONE) {
            return WRONG_FROM - wrong;
        }
        return keepRight(right);
    }

    private int keepRight(Right right) {
        if (rights.size() >= RIGHTS) {
            return FULL;
        }
        rights.add(right);
        return acted(rights.size() - 1);
    }

    public int lend(int r, int from, int to) {
        if (!within(r, rights.size()) || !isHand(from) || !isHand(to)) {
            return UNKNOWN;
        }
        if (from == to) {
            return OUTSIDE;
        }
        Right right = rights.get(r);
        if (!allows(right, from, LEND, now)) {
            return STATE;
        }
        Right lent = new Right(right.writing, now + 1);
        lent.hangOn(right, r, to);
        return keepRight(lent);
    }

    public int take(int r) {
        if (!within(r, rights.size())) {
            return UNKNOWN;
        }
        if (!rights.get(r).isThere()) {
            return STATE;
        }
        int ended = 0;
        for (int k = 0; k < rights.size(); k++) {
            Right right = rights.get(k);
            if ((k == r || right.hangsOn == r) && right.isThere()) {
                right.taken = now + 1;
                ended++;
            }
        }
        return acted(ended);
    }

    public int ofRight(int r, int what) {
        if (!within(r, rights.size())) {
            return UNKNOWN;
        }
        Right right = rights.get(r);
        switch (what) {
            case 0: return right.writing;
            case 1: return right.group;
            case 2: return right.uses;
            case 3: return right.from;
            case 4: return right.to;
            case 5: return right.hangsOn;
            case 6: return right.isThere() ? 1 : 0;
            default: return OUTSIDE;
        }
    }

    public int may(int hand, int w, int use, int moment) {
        if (!isHand(hand) || !isWriting(w) || !isMoment(moment)) {
            return UNKNOWN;
        }
        if (!within(use, USES)) {
            return OUTSIDE;
        }
        return mayUse(hand, w, use, moment) ? 1 : 0;
    }

    public int why(int hand, int w, int use, int moment) {
        if (!isHand(hand) || !isWriting(w) || !isMoment(moment)) {
            return UNKNOWN;
        }
        if (!within(use, USES)) {
            return OUTSIDE;
        }
        return reason(hand, w, use, moment);
    }

    public int view(int hand, int v, int place, int moment) {
        Version version = versionAt(v);
        if (!isHand(hand) || version == null || !within(place, version.places.length) || !isMoment(moment)) {
            return UNKNOWN;
        }
        if (moment < version.moment) {
            return STATE;
        }
        int open = openHomes(hand, version, moment);
        int x = version.places[place];
        return texts.isIn(x, open) ? x : GAP;
    }

    public int rule(int price, int share) {
        if (!within(price, 100) || !within(share, 11)) {
            return OUTSIDE;
        }
        int was = terms;
        terms = 100 * price + share;
        return acted(was);
    }

    public int read(int hand, int v) {
        Version version = versionAt(v);
        if (!isHand(hand) || version == null) {
            return UNKNOWN;
        }
        int open = openHomes(hand, version, now);
        boolean any = false;
        int owed = 0;
        for (int x : version.places) {
            if (texts.isIn(x, open)) {
                any = true;
                owed += owe(hand, texts.ownerOf(version.writing), texts.handOf(x));
            }
        }
        return any ? acted(owed) : STATE;
    }

    /** What a reader owes for one word, shared between the hand of the version's writing and the word's. */
    private int owe(int reader, int shower, int writer) {
        if (writer == reader || !isHand(writer) || !isHand(shower)) {
            return 0;
        }
        int price = terms / 100;
        int share = shower == writer || shower == reader ? 0 : price * (terms % 100) / 10;
        debts[reader * HANDS + shower] += share;
        debts[reader * HANDS + writer] += price - share;
        return price;
    }

    public int owes(int hand, int to) {
        if (!isHand(hand) || !isHand(to)) {
            return UNKNOWN;
        }
        return debts[hand * HANDS + to];
    }

    public int pay(int hand, int to, int amount) {
        if (!isHand(hand) || !isHand(to)) {
            return UNKNOWN;
        }
        if (amount < 1) {
            return OUTSIDE;
        }
        int debt = hand * HANDS + to;
        if (debts[debt] < amount) {
            return STATE;
        }
        debts[debt] -= amount;
        return acted(debts[debt]);
    }

    // ---- 5 home, seeking, seals

    public int steps(int v, int place) {
        Version version = versionAt(v);
        if (version == null || !within(place, version.places.length)) {
            return UNKNOWN;
        }
        if (version.places[place] == GAP) {
            return STATE;
        }
        return texts.follow(version.writing, version.moment, place);
    }

    public int chain(int v, int place, int i) {
        int count = steps(v, place);
        if (count < 0) {
            return count;
        }
        return within(i, count) ? texts.followed[i] : UNKNOWN;
    }

    public int quotes(int w, int u) {
        if (!isWriting(w) || !isWriting(u)) {
            return UNKNOWN;
        }
        return texts.stepsBetween(w, u, false);
    }

    public int seek(int hand, int sheet, int lane, int i, int n) {
        latestFault = 0;
        if (!isHand(hand) || !within(sheet, SHEETS)) {
            return UNKNOWN;
        }
        int refused = refusedCells(sheet, lane, i, n);
        if (refused != 0) {
            return refused;
        }
        if (n == 0) {
            return OUTSIDE;
        }
        int count = 0;
        for (int v = 0; v < versions.size(); v++) {
            Version version = versions.get(v);
            int open = openHomes(hand, version, now);
            for (int place = 0; place <= version.places.length - n; place++) {
                if (count < found.length && standsAt(version, place, open, sheets[sheet], i, n)) {
                    found[count] = (linksWith(version.places[place]) * VERSIONS + v) * PLACES + place;
                    count++;
                }
            }
        }
        keepHits(count);
        return count;
    }

    private boolean standsAt(Version version, int place, int open, Sheet codes, int i, int n) {
        for (int c = 0; c < n; c++) {
            int x = version.placeAt(place + c);
            if (!texts.isIn(x, open) || texts.codeOf(x) != codes.cellAt(i + c)) {
                return false;
            }
        }
        return true;
    }

    private int linksWith(int x) {
        int count = 0;
        for (int l = 0; l < links.size(); l++) {
            if (links.get(l).holds(x)) {
                count++;
            }
        }
        return count;
    }

    /** Those in more links first; among equals they stay in the order in which they were found. */
    private void keepHits(int count) {
        int[] next = new int[LINKS + 2];
        for (int k = 0; k < count; k++) {
            next[linksOfHit(found[k])]++;
        }
        int ahead = 0;
        for (int l = LINKS; l >= 0; l--) {
            int many = next[l];
            next[l] = ahead;
            ahead += many;
        }
        for (int k = 0; k < count; k++) {
            int l = linksOfHit(found[k]);
            if (next[l] < HITS) {
                kept[next[l]] = found[k];
            }
            next[l]++;
        }
        keptCount = Math.min(count, HITS);
    }

    private static int linksOfHit(int hit) {
        return Math.min(hit / (VERSIONS * PLACES), LINKS);
    }

    public int hit(int i, int what) {
        if (!within(i, keptCount)) {
            return UNKNOWN;
        }
        switch (what) {
            case 0: return kept[i] / PLACES % VERSIONS;
            case 1: return kept[i] % PLACES;
            case 2: return linksOfHit(kept[i]);
            default: return OUTSIDE;
        }
    }

    public int seal(int moment) {
        if (!isMoment(moment)) {
            return 0;
        }
        growTree(moment);
        return tree[1];
    }

    public int side(int x, int moment, int k) {
        if (!within(x, texts.wordCount()) || !isMoment(moment) || !within(k, LEVELS)) {
            return 0;
        }
        growTree(moment);
        return sideInTree(x, k);
    }

    public int prove(int x, int hand, int code, int put, int moment, int sheet, int lane, int i) {
        latestFault = 0;
        if (!within(x, WORDS) || !isMoment(moment) || !within(sheet, SHEETS)) {
            return UNKNOWN;
        }
        int refused = refusedCells(sheet, lane, i, LEVELS);
        if (refused != 0) {
            return refused;
        }
        growTree(moment);
        int reached = mix(mix(hand, code), put);
        for (int k = 0; k < LEVELS; k++) {
            int side = sideInTree(x, k);
            if (sheets[sheet].cellAt(i + k) != side) {
                return WRONG_FROM - k;
            }
            reached = ((x >> k) & 1) == 0 ? mix(reached, side) : mix(side, reached);
        }
        return reached == tree[1] ? 1 : 0;
    }

    public int stamp(int moment) {
        return isMoment(moment) ? stamps[moment] : 0;
    }

    private void growTree(int moment) {
        for (int x = 0; x < LEAVES; x++) {
            Word word = texts.wordAt(x);
            boolean there = word != null && word.moment <= moment;
            tree[LEAVES + x] = there ? mix(mix(word.hand, word.code), word.moment) : 0;
        }
        for (int k = LEAVES - 1; k > 0; k--) {
            tree[k] = mix(tree[2 * k], tree[2 * k + 1]);
        }
    }

    private int sideInTree(int x, int k) {
        int node = ((LEAVES + x) >> k) ^ 1;
        return within(node, tree.length) ? tree[node] : 0;
    }

    private static int mix(int a, int b) {
        int x = a * -1640531535 + b;
        x = (x ^ (x >>> 15)) * -2048144789;
        return x ^ (x >>> 13);
    }

    // ---- 6 sheets, parts

    public int sheet(int k, int lane, int n) {
        latestFault = 0;
        if (!within(k, SHEETS)) {
            return UNKNOWN;
        }
        if (!within(lane, LANES) || n > CELLS) {
            return OUTSIDE;
        }
        if (n < 0) {
            return failed(FAULT_SIZE);
        }
        sheets[k].renew(lane, n);
        return 1;
    }

    public int lose(int k) {
        if (!within(k, SHEETS)) {
            return UNKNOWN;
        }
        int had = sheets[k].isNothing() ? 0 : 1;
        sheets[k].size = Sheet.NOTHING;
        return had;
    }

    public int set(int k, int i, int v) {
        latestFault = 0;
        if (!within(k, SHEETS)) {
            return UNKNOWN;
        }
        int fault = sheets[k].faultOf(sheets[k].lane, i, 1);
        if (fault != 0) {
            return failed(fault);
        }
        sheets[k].write(i, v);
        return 1;
    }

    public long cell(int k, int i, int lane) {
        latestFault = 0;
        if (!within(k, SHEETS) || refusedCells(k, lane, i, 1) != 0) {
            return LOST;
        }
        return sheets[k].cellAt(i);
    }

    public int copy(int k, int i, int other, int j, int n) {
        latestFault = 0;
        if (!within(k, SHEETS) || !within(other, SHEETS)) {
            return UNKNOWN;
        }
        Sheet from = sheets[k];
        Sheet to = sheets[other];
        if (from.isNothing() || to.isNothing()) {
            return failed(FAULT_NULL);
        }
        if (from.lane != to.lane) {
            return failed(FAULT_CAST);
        }
        if (!from.hasCells(i, n) || !to.hasCells(j, n)) {
            return failed(FAULT_INDEX);
        }
        System.arraycopy(from.cells, i, to.cells, j, n);
        return n;
    }

    public int tell(int l) {
        Link link = linkAt(l);
        if (link == null) {
            return UNKNOWN;
        }
        switch (link.kind) {
            case NOTE: return tellNote(link);
            case REPLY: return tellReply(link);
            case SAME: return tellSame(link);
            case CORRECT: return tellCorrect(link);
            default: return tellLink(link);
        }
    }

    private int tellLink(Link link) {
        noteBody(1);
        return link.counts[0];
    }

    private int tellNote(Link link) {
        noteBody(2);
        return tellLink(link) + link.counts[1];
    }

    private int tellReply(Link link) {
        noteBody(3);
        return tellNote(link) + tellLink(link);
    }

    private int tellSame(Link link) {
        noteBody(4);
        return tellLink(link) + 100;
    }

    private int tellCorrect(Link link) {
        noteBody(5);
        return tellSame(link) + tellLink(link);
    }

    private void noteBody(int body) {
        trail = 31 * trail + body;
    }

    public int name(int l) {
        Link link = linkAt(l);
        if (link == null) {
            return UNKNOWN;
        }
        if (link.kind == CORRECT) {
            noteBody(7);
            return 40;
        }
        noteBody(6);
        return l;
    }

    public int as(int l, int kind) {
        latestFault = 0;
        Link link = linkAt(l);
        if (link == null) {
            return UNKNOWN;
        }
        if (!within(kind, KINDS)) {
            return OUTSIDE;
        }
        return link.isA(kind) ? 1 : failed(FAULT_CAST);
    }

    public int trace() {
        return trail;
    }

    public int fault() {
        return latestFault;
    }

    public int many(int what) {
        switch (what) {
            case 0: return now;
            case 1: return hands;
            case 2: return texts.count;
            case 3: return texts.wordCount();
            case 4: return versions.size();
            case 5: return links.size();
            case 6: return rights.size();
            case 7: return clashes.size();
            case 8: return keptCount;
            default: return OUTSIDE;
        }
    }

    // ---- what the calls share

    private static boolean within(int i, int count) {
        return i >= 0 && i < count;
    }

    /** Ends an act that is not refused: a moment passes, and the chain of acts takes up the answer. */
    private int acted(int answer) {
        if (now + 1 < MOMENTS) {
            stamps[now + 1] = mix(stamps[now], answer);
            groupsAt[now + 1] = groupsAt[now];
            now++;
        }
        return answer;
    }

    private int failed(int fault) {
        latestFault = fault;
        return FAULTS_FROM - fault;
    }

    /** What refuses cells of a sheet that there is, taken as a row of a lane; 0 if nothing does. */
    private int refusedCells(int sheet, int lane, int i, int n) {
        if (!within(lane, LANES)) {
            return OUTSIDE;
        }
        int fault = sheets[sheet].faultOf(lane, i, n);
        return fault == 0 ? 0 : failed(fault);
    }

    private boolean isHand(int hand) {
        return within(hand, hands);
    }

    private boolean isWriting(int w) {
        return within(w, texts.count);
    }

    private boolean isMoment(int moment) {
        return moment >= 0 && moment <= now;
    }

    private boolean isPlaceOf(int w, int place) {
        return isWriting(w) && within(place, texts.sizeAsOf(w, now));
    }

    private boolean takesAhead(int w, int at) {
        return isWriting(w) && at >= 0 && at <= texts.sizeAsOf(w, now);
    }

    private static boolean isStretch(int a, int n) {
        return within(a, 500) && n >= 1 && n <= 500;
    }

    private Version versionAt(int v) {
        return within(v, versions.size()) ? versions.get(v) : null;
    }

    private Link linkAt(int l) {
        return within(l, links.size()) ? links.get(l) : null;
    }

    private int showsWith(int w, int at, Piece piece) {
        return texts.bring(w, at, piece, now) ? acted(texts.sizeAsOf(w, now + 1)) : FULL;
    }

    /** Whether the row without these places has room for its pieces; it is the writing's then. */
    private boolean takeOut(int w, int from, int n) {
        texts.lift(w, from, n, now);
        return texts.keepLaid(w, now + 1);
    }

    private int groupAsOf(int g, int moment) {
        return within(moment, MOMENTS) ? (groupsAt[moment] >>> (8 * g)) & 255 : 0;
    }

    private boolean allows(Right right, int hand, int use, int moment) {
        if (!right.holdsAt(moment) || (right.uses & (1 << use)) == 0) {
            return false;
        }
        if (right.isLent()) {
            return right.group == HANDS + hand;
        }
        return ((groupAsOf(right.group, moment) >> hand) & 1) == 1;
    }

    private int reason(int hand, int w, int use, int moment) {
        if (texts.ownerOf(w) == hand) {
            return OWNED;
        }
        for (int r = 0; r < rights.size(); r++) {
            Right right = rights.get(r);
            if (right.writing == w && allows(right, hand, use, moment)) {
                return r;
            }
        }
        return NONE;
    }

    private boolean mayUse(int hand, int w, int use, int moment) {
        return reason(hand, w, use, moment) != NONE;
    }

    /** The writings that a hand may use so, as bits. */
    private int usable(int hand, int use, int moment) {
        int set = 0;
        for (int w = 0; w < texts.count; w++) {
            if (mayUse(hand, w, use, moment)) {
                set |= 1 << w;
            }
        }
        return set;
    }

    /** The homes, as bits, whose words a hand reads in a version; none, if the version is shut to it. */
    private int openHomes(int hand, Version version, int moment) {
        boolean mine = texts.ownerOf(version.writing) == hand;
        if (mine || (version.isGivenAt(moment) && mayUse(hand, version.writing, READ, moment))) {
            return usable(hand, READ, moment);
        }
        return 0;
    }

    /** A piece of a row; never changed, so that rows of many moments hold the same ones. */
    private static final class Piece {
        private final int kind;
        private final int first;
        private final int count;
        private final int of;
        private final int moment;

        Piece(int kind, int first, int count, int of, int moment) {
            this.kind = kind;
            this.first = first;
            this.count = count;
            this.of = of;
            this.moment = moment;
        }

        boolean hasWords() {
            return kind == OWN || kind == SEEN;
        }

        Piece head(int size) {
            return new Piece(kind, first, size, of, moment);
        }

        Piece tail(int size) {
            return new Piece(kind, first + size, count - size, of, moment);
        }

        /** The moment as of which the other writing is shown here, in a row shown as of some moment. */
        int momentWithin(int around) {
            return kind == SPAN ? moment : around;
        }
    }

    /** What a writing's row is from a moment on, with what it was earlier behind it. */
    private static final class Row {
        private final int moment;
        private final Piece[] pieces;
        private final Row earlier;

        Row(int moment, Piece[] pieces, Row earlier) {
            this.moment = moment;
            this.pieces = pieces;
            this.earlier = earlier;
        }
    }

    private static final class Word {
        private final int code;
        private final int hand;
        private final int home;
        private final int moment;
        private final int nth;

        Word(int code, int hand, int home, int moment, int nth) {
            this.code = code;
            this.hand = hand;
            this.home = home;
            this.moment = moment;
            this.nth = nth;
        }
    }

    /** What is shown of a writing as of a moment, kept so that it need not be laid out again. */
    private static final class Shown {
        private int key = NONE;
        private int size;
        private int[] places = new int[0];

        void keep(int newKey, int[] draft, int newSize) {
            if (places.length < newSize) {
                places = new int[Math.min(PLACES, Math.max(newSize, 2 * places.length))];
            }
            System.arraycopy(draft, 0, places, 0, newSize);
            size = newSize;
            key = newKey;
        }
    }

    /** The words, the writings with all that their rows were, and what these show. */
    private static final class Texts {
        private static final int SLOTS = 1024;
        /** A full row, parted at three places, with one piece more. */
        private static final int BENCH = PIECES + 8;

        private int count;
        private final int[] owners = new int[WRITINGS];
        private final Row[] rows = new Row[WRITINGS];
        private final Piece[] empty = new Piece[0];
        private final ArrayList<Word> words = new ArrayList<>();
        private final int[] wordsOfHand = new int[HANDS];
        private final Shown[] slots = new Shown[SLOTS];
        /** One for each depth: a row is laid out in its own while those within it are looked up. */
        private final int[][] drafts = new int[NESTED + 1][PLACES];
        /** A row that is being changed. */
        private final Piece[] bench = new Piece[BENCH];
        private int laid;
        private final Piece[] lifted = new Piece[BENCH];
        private int liftedCount;
        private final int[] followed = new int[NESTED + 2];

        boolean isFull() {
            return count >= WRITINGS;
        }

        /** A new writing's number; the caller has seen that there is room. */
        int begin(int hand, int moment) {
            if (isFull()) {
                return FULL;
            }
            owners[count] = hand;
            rows[count] = new Row(moment, empty, null);
            count++;
            return count - 1;
        }

        int ownerOf(int w) {
            return within(w, count) ? owners[w] : NONE;
        }

        int wordCount() {
            return words.size();
        }

        Word wordAt(int x) {
            return within(x, words.size()) ? words.get(x) : null;
        }

        void addWord(int code, int w, int moment) {
            int hand = ownerOf(w);
            if (within(hand, HANDS)) {
                words.add(new Word(code, hand, w, moment, wordsOfHand[hand]));
                wordsOfHand[hand]++;
            }
        }

        boolean areWords(int f, int n) {
            return f >= 0 && n >= 1 && f < words.size() && n <= words.size() - f;
        }

        int codeOf(int x) {
            Word word = wordAt(x);
            return word == null ? NONE : word.code;
        }

        int handOf(int x) {
            Word word = wordAt(x);
            return word == null ? NONE : word.hand;
        }

        /** Whether it is a word (no gap), and its home is one of these. */
        boolean isIn(int x, int homes) {
            Word word = wordAt(x);
            return word != null && ((homes >> word.home) & 1) == 1;
        }

        int homesOf(int f, int n) {
            int homes = 0;
            for (int k = 0; k < n; k++) {
                Word word = wordAt(f + k);
                if (word != null) {
                    homes |= 1 << word.home;
                }
            }
            return homes;
        }

        boolean codesAlike(int f, int g, int n) {
            for (int k = 0; k < n; k++) {
                if (codeOf(f + k) != codeOf(g + k)) {
                    return false;
                }
            }
            return true;
        }

        private Piece[] piecesAsOf(int w, int moment) {
            if (within(w, count)) {
                for (Row row = rows[w]; row != null; row = row.earlier) {
                    if (row.moment <= moment) {
                        return row.pieces;
                    }
                }
            }
            return empty;
        }

        int pieceCount(int w) {
            return within(w, count) && rows[w] != null ? rows[w].pieces.length : 0;
        }

        Piece pieceAt(int w, int p) {
            return within(p, pieceCount(w)) ? rows[w].pieces[p] : null;
        }

        int sizeAsOf(int w, int moment) {
            return shownOf(w, moment, 0).size;
        }

        /**
         * What is shown of a writing with so many spans and lives around it. Moments that have been stay as they
         * were, so what a slot holds never grows old; but it is to be used before the next one is asked for.
         */
        private Shown shownOf(int w, int moment, int around) {
            int key = (moment * WRITINGS + w) * (NESTED + 1) + around;
            int slot = (key * -1640531535) >>> 22;
            if (slots[slot] == null) {
                slots[slot] = new Shown();
            }
            Shown shown = slots[slot];
            if (shown.key != key) {
                int depth = Math.max(0, Math.min(around, NESTED));
                Piece[] pieces = piecesAsOf(w, moment);
                int size = 0;
                for (int p = 0; p < pieces.length && size < PLACES; p++) {
                    size = lay(pieces[p], moment, depth, size);
                }
                shown.keep(key, drafts[depth], size);
            }
            return shown;
        }

        /** Lays out a piece behind the places that stand: how many there are then. */
        private int lay(Piece piece, int moment, int depth, int size) {
            int[] draft = drafts[depth];
            int room = PLACES - size;
            if (piece.hasWords()) {
                int fitting = Math.min(room, piece.count);
                for (int k = 0; k < fitting; k++) {
                    draft[size + k] = piece.first + k;
                }
                return size + fitting;
            }
            if (depth >= NESTED) {
                draft[size] = GAP;
                return size + 1;
            }
            Shown inner = shownOf(piece.of, piece.momentWithin(moment), depth + 1);
            int fitting = Math.min(room, stretch(piece, inner.size));
            if (fitting > 0) {
                System.arraycopy(inner.places, piece.first, draft, size, fitting);
            }
            return size + fitting;
        }

        private static int stretch(Piece piece, int size) {
            int there = size > piece.first ? size - piece.first : 0;
            return there < piece.count ? there : piece.count;
        }

        /** How many places a piece shows, if nothing of it is left out. */
        private int sizeOf(Piece piece, int moment, int around) {
            if (piece.hasWords()) {
                return piece.count;
            }
            if (around >= NESTED) {
                return 1;
            }
            return stretch(piece, shownOf(piece.of, piece.momentWithin(moment), around + 1).size);
        }

        private void layOut(int w) {
            laid = 0;
            for (int p = 0; p < pieceCount(w) && p < PIECES; p++) {
                bench[p] = rows[w].pieces[p];
                laid++;
            }
        }

        /** Lays out words, each run of numbers one behind the other as a seen piece. */
        void layRuns(int[] row, int size) {
            laid = 0;
            int from = 0;
            for (int k = 1; k <= size && k <= row.length; k++) {
                if (k == size || row[k] != row[k - 1] + 1) {
                    insert(laid, new Piece(SEEN, row[from], k - from, NONE, NONE));
                    from = k;
                }
            }
        }

        private void insert(int index, Piece piece) {
            if (laid >= BENCH || index < 0 || index > laid) {
                return;
            }
            for (int p = laid; p > index; p--) {
                bench[p] = bench[p - 1];
            }
            bench[index] = piece;
            laid++;
        }

        /** Parts a piece of the bench: the index of what is left of it. */
        private int partAt(int index, int size) {
            Piece whole = bench[index];
            bench[index] = whole.head(size);
            insert(index + 1, whole.tail(size));
            return index + 1;
        }

        /**
         * Where on the bench a piece comes ahead of a place: behind such as show nothing there. What is beyond the
         * places that are shown is no place, so at their end nothing is parted.
         */
        private int openAhead(int place, int moment) {
            int start = 0;
            for (int p = 0; p < laid; p++) {
                int end = Math.min(PLACES, start + sizeOf(bench[p], moment, 0));
                if (end > place) {
                    return start < place ? partAt(p, place - start) : p;
                }
                start = end;
            }
            return laid;
        }

        /**
         * Where on the bench what stands ahead of a place ends: ahead of such as show nothing there. At the end of
         * what is shown a piece that goes on beyond stays whole, too.
         */
        private int openBehind(int place, int moment) {
            int start = 0;
            for (int p = 0; p < laid; p++) {
                int end = Math.min(PLACES, start + sizeOf(bench[p], moment, 0));
                if (end >= place) {
                    return end > place ? partAt(p, place - start) : p + 1;
                }
                start = end;
            }
            return laid;
        }

        /** Whether there is room for the piece ahead of a place; it is in the row from the next moment on then. */
        boolean bring(int w, int place, Piece piece, int moment) {
            layOut(w);
            insert(openAhead(place, moment), piece);
            return keepLaid(w, moment + 1);
        }

        /** Lays out a row and lifts places off the bench, with the pieces that show nothing between them. */
        void lift(int w, int from, int n, int moment) {
            layOut(w);
            int first = openAhead(from, moment);
            int end = openBehind(from + n, moment);
            liftedCount = Math.max(0, end - first);
            for (int p = 0; p < liftedCount; p++) {
                lifted[p] = bench[first + p];
            }
            for (int p = end; p < laid && liftedCount > 0; p++) {
                bench[p - liftedCount] = bench[p];
            }
            laid -= liftedCount;
        }

        void bringLifted(int place, int moment) {
            int index = openAhead(place, moment);
            for (int p = 0; p < liftedCount; p++) {
                insert(index + p, lifted[p]);
            }
        }

        /** Whether the bench is no longer than a row may be; it is the writing's row from the moment on then. */
        boolean keepLaid(int w, int moment) {
            if (laid > PIECES || !within(w, count)) {
                return false;
            }
            Piece[] pieces = new Piece[laid];
            for (int p = 0; p < laid; p++) {
                pieces[p] = bench[p];
            }
            rows[w] = new Row(moment, pieces, rows[w]);
            return true;
        }

        void returnTo(int w, int past, int moment) {
            if (within(w, count)) {
                rows[w] = new Row(moment, piecesAsOf(w, past), rows[w]);
            }
        }

        /** Notes the writings from a place home in followed: how many; 0 of a gap. */
        int follow(int w, int moment, int place) {
            int of = w;
            int asOf = moment;
            int at = place;
            for (int depth = 0; depth <= NESTED; depth++) {
                followed[depth] = of;
                Piece[] pieces = piecesAsOf(of, asOf);
                Piece there = null;
                for (int p = 0; p < pieces.length && there == null; p++) {
                    int size = sizeOf(pieces[p], asOf, depth);
                    if (at < size) {
                        there = pieces[p];
                    } else {
                        at -= size;
                    }
                }
                if (there == null) {
                    return 0;
                }
                if (there.hasWords()) {
                    return endAtHome(depth + 1, of, there.first + at);
                }
                of = there.of;
                asOf = there.momentWithin(asOf);
                at += there.first;
            }
            return 0;
        }

        private int endAtHome(int size, int last, int x) {
            Word word = wordAt(x);
            if (word == null || word.home == last || size >= followed.length) {
                return size;
            }
            followed[size] = word.home;
            return size + 1;
        }

        /** The fewest lives, or else quotes, that lead from a writing to another as rows are now; NONE. */
        int stepsBetween(int from, int to, boolean livesOnly) {
            int reached = 1 << from;
            int front = reached;
            for (int steps = 0; steps < WRITINGS; steps++) {
                if (((front >> to) & 1) == 1) {
                    return steps;
                }
                int next = 0;
                for (int w = 0; w < count; w++) {
                    if (((front >> w) & 1) == 1) {
                        next |= livesOnly ? livesOf(w) : quotedBy(w);
                    }
                }
                front = next & ~reached;
                reached |= front;
            }
            return NONE;
        }

        private int livesOf(int w) {
            int set = 0;
            for (int p = 0; p < pieceCount(w); p++) {
                Piece piece = rows[w].pieces[p];
                if (piece.kind == LIVE) {
                    set |= 1 << piece.of;
                }
            }
            return set;
        }

        private int quotedBy(int w) {
            int set = 0;
            for (int p = 0; p < pieceCount(w); p++) {
                Piece piece = rows[w].pieces[p];
                if (piece.kind == SEEN) {
                    set |= homesOf(piece.first, piece.count);
                } else if (!piece.hasWords()) {
                    set |= 1 << piece.of;
                }
            }
            return set;
        }
    }

    private static final class Version {
        private static final int DRAFT = 0, GIVEN = 1, CALLED_BACK = 2;

        private final int writing;
        private final int moment;
        private final int[] places;
        private int given = NEVER;
        private int calledBack = NEVER;

        Version(int writing, int moment, int[] places) {
            this.writing = writing;
            this.moment = moment;
            this.places = places;
        }

        int kind() {
            if (given == NEVER) {
                return DRAFT;
            }
            return calledBack == NEVER ? GIVEN : CALLED_BACK;
        }

        boolean isGivenAt(int asOf) {
            return given <= asOf && calledBack > asOf;
        }

        int placeAt(int place) {
            return within(place, places.length) ? places[place] : GAP;
        }

        int gaps() {
            int gaps = 0;
            for (int x : places) {
                if (x == GAP) {
                    gaps++;
                }
            }
            return gaps;
        }
    }

    /** Two rows of words that were put at one place; both stand till it is settled. */
    private static final class Clash {
        private final int writing;
        private final int[] words;
        private final int firstSize;
        private boolean settled;

        Clash(int writing, int[] words, int firstSize) {
            this.writing = writing;
            this.words = words;
            this.firstSize = firstSize;
        }

        int placeIn(Shown row) {
            for (int place = 0; place <= row.size - words.length; place++) {
                int alike = 0;
                while (alike < words.length && row.places[place + alike] == words[alike]) {
                    alike++;
                }
                if (alike == words.length) {
                    return place;
                }
            }
            return NONE;
        }
    }

    /** Compares rows of places, and joins two by a base. */
    private static final class Weave {
        private static final int BITS_A_ROW = PLACES / 32 + 1;

        /** How much is shared behind, for two rows of the table one below the other. */
        private final int[][] behind = new int[2][PLACES + 1];
        /** A bit for each pair of places of the base and a side: whether the base's is cut, if they are unlike. */
        private final int[] cuts = new int[PLACES * BITS_A_ROW];
        private final int[] often = new int[WORDS];
        private final int[] base = new int[PLACES];
        private int baseSize;
        private final int[][] sides = new int[2][PLACES];
        private final int[] sideSizes = new int[2];
        /** What a side puts ahead of each place of the base: from where to where in its row. */
        private final int[][] putFrom = new int[2][PLACES + 1];
        private final int[][] putTo = new int[2][PLACES + 1];
        private final boolean[] gone = new boolean[PLACES];
        private final int[] joined = new int[2 * PLACES];
        private int joinedSize;
        private final int[] clashStarts = new int[CLASHES];
        private final int[] clashFirsts = new int[CLASHES];
        private final int[] clashEnds = new int[CLASHES];
        private int clashCount;

        private static boolean alike(int x, int y) {
            return x == y && x != GAP;
        }

        int sharedBy(int[] a, int[] b) {
            return sharedOf(a, Math.min(a.length, PLACES), b, Math.min(b.length, PLACES));
        }

        /** The longest row that is part of both in order; leaves in cuts what the ways need. */
        private int sharedOf(int[] a, int aSize, int[] b, int bSize) {
            Arrays.fill(behind[aSize & 1], 0);
            for (int i = aSize - 1; i >= 0; i--) {
                int[] below = behind[(i + 1) & 1];
                int[] here = behind[i & 1];
                here[bSize] = 0;
                int bits = 0;
                for (int j = bSize - 1; j >= 0; j--) {
                    boolean cut = below[j] >= here[j + 1];
                    here[j] = alike(a[i], b[j]) ? below[j + 1] + 1 : cut ? below[j] : here[j + 1];
                    bits = (bits << 1) | (cut ? 1 : 0);
                    if ((j & 31) == 0) {
                        cuts[i * BITS_A_ROW + (j >> 5)] = bits;
                        bits = 0;
                    }
                }
            }
            return behind[0][0];
        }

        private boolean isCut(int i, int j) {
            return ((cuts[i * BITS_A_ROW + (j >> 5)] >> (j & 31)) & 1) == 1;
        }

        /** How many words two rows have in common, wherever they stand. */
        int commonTo(int[] a, int[] b) {
            Arrays.fill(often, 0);
            for (int x : a) {
                if (within(x, WORDS)) {
                    often[x]++;
                }
            }
            int common = 0;
            for (int x : b) {
                if (within(x, WORDS) && often[x] > 0) {
                    often[x]--;
                    common++;
                }
            }
            return common;
        }

        private static int withoutGaps(int[] places, int[] into) {
            int size = 0;
            for (int x : places) {
                if (x != GAP && size < into.length) {
                    into[size] = x;
                    size++;
                }
            }
            return size;
        }

        void weaveBy(int[] v, int[] u, int[] c) {
            baseSize = withoutGaps(c, base);
            sideSizes[0] = withoutGaps(v, sides[0]);
            sideSizes[1] = withoutGaps(u, sides[1]);
            for (int k = 0; k < PLACES; k++) {
                gone[k] = false;
            }
            findWay(0);
            findWay(1);
            joinedSize = 0;
            clashCount = 0;
            for (int i = 0; i <= baseSize; i++) {
                joinPuts(i);
                if (i < baseSize && !gone[i]) {
                    append(base, i, i + 1);
                }
            }
        }

        /** The way from the base to a side: what the side puts ahead of each place, and which places it cuts. */
        private void findWay(int side) {
            int[] row = sides[side];
            int size = sideSizes[side];
            sharedOf(base, baseSize, row, size);
            int j = 0;
            for (int i = 0; i < baseSize; i++) {
                putFrom[side][i] = j;
                while (j < size && row[j] != base[i] && !isCut(i, j)) {
                    j++;
                }
                putTo[side][i] = j;
                if (j < size && row[j] == base[i]) {
                    j++;
                } else {
                    gone[i] = true;
                }
            }
            putFrom[side][baseSize] = j;
            putTo[side][baseSize] = size;
        }

        private void joinPuts(int i) {
            int ofOne = putTo[0][i] - putFrom[0][i];
            int ofOther = putTo[1][i] - putFrom[1][i];
            int order = orderOfPuts(i);
            if (ofOther == 0 || order == 0) {
                append(sides[0], putFrom[0][i], putTo[0][i]);
            } else if (ofOne == 0) {
                append(sides[1], putFrom[1][i], putTo[1][i]);
            } else {
                int lesser = order < 0 ? 0 : 1;
                int start = joinedSize;
                append(sides[lesser], putFrom[lesser][i], putTo[lesser][i]);
                int middle = joinedSize;
                append(sides[1 - lesser], putFrom[1 - lesser][i], putTo[1 - lesser][i]);
                noteClash(start, middle);
            }
        }

        /** Below 0, if what the first side puts ahead of a place is the lesser row; 0, if both put the same. */
        private int orderOfPuts(int i) {
            int ofOne = putTo[0][i] - putFrom[0][i];
            int ofOther = putTo[1][i] - putFrom[1][i];
            for (int k = 0; k < ofOne && k < ofOther; k++) {
                int x = sides[0][putFrom[0][i] + k];
                int y = sides[1][putFrom[1][i] + k];
                if (x != y) {
                    return Integer.compare(x, y);
                }
            }
            return Integer.compare(ofOne, ofOther);
        }

        private void append(int[] row, int from, int to) {
            for (int k = from; k < to && joinedSize < joined.length; k++) {
                joined[joinedSize] = row[k];
                joinedSize++;
            }
        }

        /** More clashes than there may ever be are counted, but need not be known. */
        private void noteClash(int start, int middle) {
            if (clashCount < CLASHES) {
                clashStarts[clashCount] = start;
                clashFirsts[clashCount] = middle;
                clashEnds[clashCount] = joinedSize;
            }
            clashCount++;
        }

        Clash clashAt(int k, int w) {
            if (!within(k, CLASHES)) {
                return new Clash(w, new int[0], 0);
            }
            int[] words = Arrays.copyOfRange(joined, clashStarts[k], clashEnds[k]);
            return new Clash(w, words, clashFirsts[k] - clashStarts[k]);
        }

        /** How many seen pieces the joined row has. */
        int runs() {
            int runs = joinedSize > 0 ? 1 : 0;
            for (int k = 1; k < joinedSize; k++) {
                if (joined[k] != joined[k - 1] + 1) {
                    runs++;
                }
            }
            return runs;
        }
    }

    private static final class Link {
        /** What each kind is, too. */
        private static final int[] ABOVE = {NONE, LINK, NOTE, LINK, SAME};

        private final int kind;
        private final int[] firsts = new int[2];
        private final int[] counts = new int[2];
        private final int note;

        Link(int kind, int f, int n, int g, int k, int note) {
            this.kind = kind;
            this.firsts[0] = f;
            this.counts[0] = n;
            this.firsts[1] = g;
            this.counts[1] = k;
            this.note = note;
        }

        boolean isA(int wanted) {
            int is = kind;
            for (int k = 0; k < KINDS && within(is, KINDS); k++) {
                if (is == wanted) {
                    return true;
                }
                is = ABOVE[is];
            }
            return false;
        }

        private boolean endHolds(int end, int x) {
            return x >= firsts[end] && x - firsts[end] < counts[end];
        }

        boolean holds(int x) {
            return endHolds(0, x) || endHolds(1, x);
        }

        /** The first place from one on at which a part of an end begins; NONE. */
        int partFrom(int end, int[] places, int from) {
            for (int place = Math.max(0, from); place < places.length; place++) {
                if (endHolds(end, places[place])) {
                    return place;
                }
            }
            return NONE;
        }

        int partBehind(int end, int[] places, int part) {
            return partFrom(end, places, part + partSize(end, places, part));
        }

        int partSize(int end, int[] places, int from) {
            int place = from + 1;
            while (place > 0 && place < places.length && endHolds(end, places[place])
                    && places[place] == places[place - 1] + 1) {
                place++;
            }
            return place - from;
        }
    }

    /** A right over a writing: for a group by a text, or lent to a hand. */
    private static final class Right {
        private static final int AT_GROUP = 0, AT_COLON = 1, AT_USES = 2, AT_FROM = 3, AT_TO = 4;
        private static final int DIGITS = 4;

        private final int writing;
        private final int made;
        private int taken = NEVER;
        /** The group; of a lent one HANDS and the hand. */
        private int group;
        private int uses;
        private int from;
        private int to;
        private int hangsOn = NONE;
        /** How far its text has been read. */
        private int stage = AT_GROUP;
        private int digits;

        Right(int writing, int made) {
            this.writing = writing;
            this.made = made;
        }

        void hangOn(Right other, int number, int hand) {
            group = HANDS + hand;
            uses = other.uses & ~(1 << LEND);
            from = other.from;
            to = other.to;
            hangsOn = number;
        }

        boolean isLent() {
            return hangsOn != NONE;
        }

        /** What hangs on a taken one is taken with it, so that each one knows for itself. */
        boolean isThere() {
            return taken == NEVER;
        }

        boolean holdsAt(int moment) {
            return made <= moment && taken > moment && from <= moment && moment <= to;
        }

        /** NONE, if the cells are a text; else the first wrong place. */
        int readText(Sheet sheet, int i, int n) {
            for (int k = 0; k < n; k++) {
                if (!goesOn(sheet.cellAt(i + k))) {
                    return k;
                }
            }
            return stage == AT_TO && digits > 0 ? NONE : n;
        }

        private boolean goesOn(int code) {
            switch (stage) {
                case AT_GROUP:
                    group = code - '0';
                    stage = AT_COLON;
                    return within(group, GROUPS);
                case AT_COLON:
                    stage = AT_USES;
                    return code == ':';
                case AT_USES:
                    return goesOnUses(code);
                default:
                    return goesOnNumber(code);
            }
        }

        private boolean goesOnUses(int code) {
            if (code == '@' && uses != 0) {
                stage = AT_FROM;
                return true;
            }
            int use = code == 'r' ? 1 << READ : code == 'q' ? 1 << QUOTE : code == 'l' ? 1 << LEND : 0;
            if (use == 0 || (uses & use) != 0) {
                return false;
            }
            uses |= use;
            return true;
        }

        private boolean goesOnNumber(int code) {
            if (code == '-' && stage == AT_FROM && digits > 0) {
                stage = AT_TO;
                digits = 0;
                return true;
            }
            if (!within(code - '0', 10) || digits >= DIGITS) {
                return false;
            }
            digits++;
            if (stage == AT_FROM) {
                from = 10 * from + code - '0';
            } else {
                to = 10 * to + code - '0';
            }
            return true;
        }
    }

    private static final class Sheet {
        private static final int NOTHING = -1;

        private int lane;
        private int size = NOTHING;
        private final int[] cells = new int[CELLS];

        boolean isNothing() {
            return size == NOTHING;
        }

        void renew(int newLane, int n) {
            lane = newLane;
            size = n;
            Arrays.fill(cells, 0);
        }

        boolean hasCells(int i, int n) {
            return n >= 0 && i >= 0 && i <= size && n <= size - i;
        }

        /** The fault that taking n cells from i on as a row of a lane comes to; 0. */
        int faultOf(int wantedLane, int i, int n) {
            if (isNothing()) {
                return FAULT_NULL;
            }
            if (wantedLane != lane) {
                return FAULT_CAST;
            }
            if (n < 0) {
                return FAULT_SIZE;
            }
            return hasCells(i, n) ? 0 : FAULT_INDEX;
        }

        int cellAt(int i) {
            return within(i, CELLS) ? cells[i] : 0;
        }

        void write(int i, int v) {
            if (within(i, CELLS)) {
                cells[i] = lane == 0 ? (byte) v : lane == 1 ? (short) v : v;
            }
        }

        boolean areCodes(int i, int n) {
            for (int k = 0; k < n; k++) {
                int code = cellAt(i + k);
                if (code < 1 || code > 99) {
                    return false;
                }
            }
            return true;
        }
    }
}
