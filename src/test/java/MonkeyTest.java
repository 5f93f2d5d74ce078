import java.util.Random;
import java.util.Set;

/** No call throws anything but what the document names, and a call that throws changes nothing. */
public final class MonkeyTest {
    private static final Set<String> NAMED = Set.of("IndexOutOfBoundsException", "IllegalStateException", "IllegalArgumentException");
    private static final String[] TEXTS = {
        "create table t (a int unique,b text,c int default 3,check(c<50),unique(b,c))",
        "create table u (a int references t(a) on delete cascade,b text not null,c int references t(a) on delete set null)",
        "create index i on t(c,b)", "create unique index j on u(a,b)", "create view v as select a,b from t where c>1",
        "create view w as select p.a,count(*) as n from v p left join u q on p.a=q.a group by p.a",
        "drop table t", "drop table u", "drop index i", "drop view v", "drop view w", "begin", "commit", "rollback", "savepoint p",
        "rollback to p", "release p", "insert into t values (?,$,?)", "insert or replace into t (a,b) values (?,$),(1,'x')",
        "insert or ignore into u select a,b,c from t", "insert into u values (?,$,?)", "update t set c=c+1,b=b||'z' where a>?",
        "update u set a=(select max(a) from t) where b like $", "delete from t where a=?", "delete from u where c is null",
        "select * from t where a between ? and ? order by 1 desc limit ?", "select distinct c from t,u where t.b=u.b",
        "select * from w where n in (select c from t where t.a=w.a)", "select a,sum(distinct c),max(b) from t group by a having count(*)>0",
        "select (select count(*) from u where u.a=t.a),substr(b,?,?) from t", "select a from t union select c from u except select 1",
        "select case when a then b else $ end from t where exists (select 1 from v where v.a=t.a)"};

    public static void main(String[] args) {
        for (int seed = 1; seed <= 40; seed++) {
            run(seed, 512);
        }
        Db.end();
    }

    private static void run(int seed, int calls) {
        Random random = new Random(seed);
        Db db = new Db();
        for (int i = 0; i < calls; i++) {
            long before = db.store.digest();
            String[] what = {""};
            String thrown = Db.thrown(() -> what[0] = call(db, random));
            if (thrown.equals("nothing")) continue;
            if (!NAMED.contains(thrown)) Db.due("seed " + seed + ", call " + i, "a named exception", thrown);
            Db.due("seed " + seed + ", call " + i + " that throws changes nothing", before, db.store.digest());
        }
        Db.due("run " + seed, true, true);
    }

    private static int small(Random random) {
        return random.nextInt(8) == 0 ? random.nextInt() : random.nextInt(12) - 2;
    }

    private static String call(Db db, Random random) {
        SqlStore s = db.store;
        int kind = random.nextInt(40);
        if (kind < 14) {
            String text = TEXTS[random.nextInt(TEXTS.length)];
            if (random.nextInt(10) == 0) text = spoilt(text, random);
            int slot = random.nextInt(8);
            if (db.prepare(slot, text) == 0) {
                for (int i = 0; i < s.parameters(slot); i++) bind(db, slot, i, random);
                s.run(slot);
            }
            return text;
        }
        switch (kind) {
            case 14: s.feed(random.nextInt(), random.nextInt(), random.nextInt(), random.nextInt(), random.nextInt()); break;
            case 15: s.trim(small(random)); break;
            case 16: s.prepare(small(random)); break;
            case 17: s.parameters(small(random)); break;
            case 18: s.bindNumber(small(random), small(random), random.nextLong()); break;
            case 19: s.bindText(small(random), small(random)); break;
            case 20: s.bindNull(small(random), small(random)); break;
            case 21: case 22: s.use(random.nextInt(3)); break;
            case 23: case 24: s.run(small(random)); break;
            case 25: s.kindAt(small(random), small(random)); break;
            case 26: s.numberAt(small(random), small(random)); break;
            case 27: s.lengthAt(small(random), small(random)); break;
            case 28: s.byteAt(small(random), small(random), small(random)); break;
            case 29: s.indexUsed(small(random), small(random)); s.worthOf(small(random), small(random)); break;
            case 30: s.markOf(small(random)); s.savepoints(small(random)); s.inTransaction(small(random)); break;
            case 31: s.framesDue(); s.pages(); s.freePages(); s.treePages(); s.meanFill(); break;
            case 32: s.pageByte(small(random), small(random)); break;
            case 33: s.rootOf(small(random)); s.levelsOf(small(random)); s.entriesOf(small(random)); break;
            case 34: case 35: s.checkpoint(); break;
            case 36: s.sync(); break;
            case 37: if (random.nextInt(3) == 0) s.crash(s.unsafeBytes() > 0 ? random.nextInt(s.unsafeBytes()) : 0, 0); break;
            case 38: s.poke(s.logBytes() > 0 ? random.nextInt(s.logBytes()) : small(random), random.nextInt(300)); break;
            default: s.open(); break;
        }
        return "";
    }

    private static void bind(Db db, int slot, int place, Random random) {
        if (random.nextInt(6) == 0) return;
        String thrown = Db.thrown(() -> db.store.bindNumber(slot, place, random.nextInt(3) == 0 ? random.nextLong() : random.nextInt(9)));
        if (thrown.equals("nothing")) return;
        db.tape("xyz%".substring(random.nextInt(4)));
        db.store.bindText(slot, place);
    }

    private static String spoilt(String text, Random random) {
        int at = random.nextInt(text.length());
        String behind = text.substring(Math.min(text.length(), at + random.nextInt(4)));
        return text.substring(0, at) + (char) random.nextInt(128) + behind;
    }
}
